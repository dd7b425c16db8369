/-! rules: the class's parts and expressions -/
theorem cNumB_k {t : Nat → Nat} {m n s c : Nat} {I : HI} {Q : Int32 → HI → Prop} (h : CS t m n I s c) (e1 : tK t m s ≠ 131) (h2 : ∀ I', FrR I I' → I' 28 8 = 130 → I' 28 0 = nI (if tK t m s = 132 then 2 else 1) → I' 28 1 = nI s → Q 0 I') : Rd_readNumber_b26 I Q := by
  have hk := tK_ne t m s
  have e8 := h.2.2.2.2.1
  unfold Rd_readNumber_b26
  refine ie (fun e => e1 ((nk hk.2 e8 (c := 131) (by decide)).mp e)) (ic (fun e => ?_) (fun e => ?_))
  · have e2 := (nk hk.2 e8 (c := 132) (by decide)).mp e
    rw [if_pos e2] at h2
    exact cStop (f := 2) h (fun I' g a b c => h2 I' g a b c)
  · have e2 : tK t m s ≠ 132 := fun e2 => e (e8.trans (by rw [e2]; rfl))
    rw [if_neg e2] at h2
    exact cStop (f := 1) h (fun I' g a b c => h2 I' g a b c)
theorem cNumber_k {t : Nat → Nat} {m n s c : Nat} {I : HI} {Q : Int32 → HI → Prop} (h : CS t m n I s c) (h1 : tK t m s = 131 → ∀ I', FrK c I I' → CS t m n I' (nxt t m s) c → Q (nI (tV t m s)) I') (h2 : tK t m s ≠ 131 → ∀ I', FrR I I' → I' 28 8 = 130 → I' 28 0 = nI (if tK t m s = 132 then 2 else 1) → I' 28 1 = nI s → Q 0 I') : Rd_readNumber I (1000 : Int32) Q := by
  have hk := tK_ne t m s
  have e8 := h.2.2.2.2.1
  unfold Rd_readNumber
  refine ic (fun e => ?_) (fun e => ?_)
  · have e1 := (nk hk.2 e8 (c := 131) (by decide)).mp e
    have hv := tV_le e1
    rw [h.2.2.2.2.2.1 e1]
    refine ie (fun q => ?_) (cNext h (fun I' f hC => h1 e1 I' f hC))
    rw [show (1000 : Int32) = nI 1000 from rfl, nI_leI (by omega) (by omega)] at q
    omega
  · have e1 : tK t m s ≠ 131 := fun e1 => e (e8.trans (by rw [e1]; rfl))
    exact cNumB_k h e1 (h2 e1)
theorem cWear_k {t : Nat → Nat} {m n s c : Nat} {I : HI} {Q : Int32 → HI → Prop} (h : CS t m n I s c) (K : match spWear t m n s with
    | .error e => ∀ x I', FrR I I' → I' 28 8 = 130 → I' 28 0 = nI e.1 → I' 28 1 = nI e.2 → Q x I'
    | .ok p => ∀ I', FrK c I I' → CS t m n I' p.1 c → Q (nI p.2) I') : Rd_readNumber I (I 28 5) Q := by
  have hk := tK_ne t m s
  have e8 := h.2.2.2.2.1
  have h5 := h.2.2.2.2.2.2.1
  have hn8 := h.2.2.2.2.2.2.2.1
  unfold Rd_readNumber
  unfold spWear at K
  refine ic (fun e => ?_) (fun e => ?_)
  · have e1 := (nk hk.2 e8 (c := 131) (by decide)).mp e
    have hv := tV_le e1
    rw [if_pos e1] at K
    rw [h.2.2.2.2.2.1 e1, h5]
    refine ic (fun e2 => ?_) (fun e2 => ?_)
    · rw [if_neg (show ¬ tV t m s < n by have := (nI_leI (by omega) (by omega)).mp e2; omega)] at K
      unfold Rd_readNumber_b26
      exact it e (cStop (f := 4) h (fun I' g a b c => K 0 I' g a b c))
    · rw [if_pos (show tV t m s < n by rcases Nat.lt_or_ge (tV t m s) n with q | q; exact q; exact absurd (nI_le q (by omega)) e2)] at K
      exact cNext h (fun I' f hC => K I' f hC)
  · have e1 : tK t m s ≠ 131 := fun e1 => e (e8.trans (by rw [e1]; rfl))
    rw [if_neg e1] at K
    exact cNumB_k h e1 (fun I' g a b c => K 0 I' g a b c)
theorem cPart {t : Nat → Nat} {m n : Nat} {RO : HI → Int32 → (Int32 → HI → Prop) → Prop} {x1 : Int32} {ro : Nat → Rs} (hX : CX t m n (fun I Q => RO I (x1 + 1) Q) ro) (hS : SP m n ro) : CX t m n (fun I Q => Rd_readPart RO I x1 Q) (spPart t m n ro) := by
  intro s I c Q hC K
  show Rd_readPart RO I x1 Q
  have hk := tK_ne t m s
  have e8 := hC.2.2.2.2.1
  have hcs := hC.2.2.2.2.2.2.2.2.2
  unfold Rd_readPart
  unfold spPart at K
  by_cases k1 : tK t m s = 40
  · rw [if_pos k1] at K
    have hsm := kd_lt (show tK t m s ≠ 128 by omega)
    have hn := nxt_gt t hsm
    have hn2 := nxt_le t hC.2.1
    refine it (e8.trans (by rw [k1]; rfl)) (cNext hC (fun I1 f1 hC1 => hX _ I1 _ _ hC1 ?_))
    cases hq : ro (nxt t m s) with
    | error e =>
      rw [hq] at K
      intro x I' g a b c
      exact zExpect a (by decide) (K _ I' (f1.frR g) a b c)
    | ok p =>
      rw [hq] at K
      obtain ⟨a1, a2, a3, a4⟩ := hS _ hn2 p hq
      intro I2 f2 hC2 hE2
      have hk2 := tK_ne t m p.1
      unfold Rd_expect
      simp only at K
      by_cases k2 : tK t m p.1 = 41
      · rw [if_pos k2] at K
        exact it (hC2.2.2.2.2.1.trans (by rw [k2]; rfl)) (cNext hC2 (fun I3 f3 hC3 => K I3 ((f1.trans f2 (by omega)).trans f3 (by omega)) hC3 (hE2.fr f3 (by omega))))
      · rw [if_neg k2] at K
        exact ie (fun e => k2 ((nk hk2.2 hC2.2.2.2.2.1 (by decide)).mp e)) (cStop (f := 1) hC2 (fun I3 g a b c => K _ I3 ((f1.trans f2 (by omega)).frR g) a b c))
  rw [if_neg k1] at K
  refine ie (fun e => k1 ((nk hk.2 e8 (by decide)).mp e)) ?_
  unfold Rd_isNumber
  have num : tK t m s = 131 ∨ tK t m s = 132 → Rd_readNumber I (1000 : Int32) (fun a26 I27 => Rd_add I27 (131 : Int32) a26 (0 : Int32) (fun a29 I30 => Q a29 I30)) := by
    intro hnum
    refine cNumber_k hC (fun k2 I1 f1 hC1 => ?_) (fun k2 I' g a b c => zAdd a ?_)
    · rw [if_pos k2] at K
      have hsm := kd_lt (show tK t m s ≠ 128 by omega)
      have hn := nxt_gt t hsm
      exact cAdd hC1 (by omega) (fun I2 f2 hC2 i1 i2 i3 => K I2 (f1.trans f2 (by omega)) hC2 (CE.num i1 i2))
    · rw [if_neg k2, if_pos (hnum.resolve_left k2)] at K
      rw [if_pos (hnum.resolve_left k2)] at b
      exact K _ I' g a b c
  by_cases k2 : tK t m s = 131
  · exact it (e8.trans (by rw [k2]; rfl)) (ie (by decide) (num (Or.inl k2)))
  refine ie (fun e => k2 ((nk hk.2 e8 (by decide)).mp e)) ?_
  by_cases k3 : tK t m s = 132
  · exact it (e8.trans (by rw [k3]; rfl)) (ie (by decide) (num (Or.inr k3)))
  refine ie (fun e => k3 ((nk hk.2 e8 (by decide)).mp e)) (it rfl ?_)
  rw [if_neg k2, if_neg k3] at K
  have bad : (tK t m s < 144 ∨ 150 < tK t m s) → Rd_readPart_b68 RO I Q := by
    intro hb
    rw [if_pos hb] at K
    unfold Rd_readPart_b68 Rd_isWord
    rw [e8]
    refine ic (fun e => it rfl ?_) (fun e => ie (by decide) ?_)
    · rw [if_neg (show ¬ 140 ≤ tK t m s by have := (nI_ltI (b := 140) (by omega) (by decide)).mp e; omega)] at K
      exact cStop (f := 1) hC (fun I' g a b c => K _ I' g a b c)
    · rw [if_pos (show 140 ≤ tK t m s by rcases Nat.lt_or_ge (tK t m s) 140 with h | h; exact absurd (nI_lt h (by decide)) e; exact h)] at K
      exact cStop (f := 3) hC (fun I' g a b c => K _ I' g a b c)
  refine ic (fun e => bad (Or.inl ((nI_ltI (b := 144) (by omega) (by decide)).mp (by rw [e8] at e; exact e)))) (fun e => ?_)
  rw [e8] at e
  have k4 : 144 ≤ tK t m s := by rcases Nat.lt_or_ge (tK t m s) 144 with h | h; exact absurd (nI_lt h (by decide)) e; exact h
  refine ic (fun e => ?_) (fun e => bad (Or.inr ?_))
  rotate_left
  · rw [e8] at e
    rcases Nat.lt_or_ge 150 (tK t m s) with h | h
    · exact h
    · exact absurd (nI_le h (by decide)) e
  rw [e8] at e
  have k5 : tK t m s ≤ 150 := (nI_leI (b := 150) (by omega) (by decide)).mp e
  rw [if_neg (show ¬ (tK t m s < 144 ∨ 150 < tK t m s) by omega)] at K
  have hsm := kd_lt (show tK t m s ≠ 128 by omega)
  have hn := nxt_gt t hsm
  have hn2 := nxt_le t hC.2.1
  refine cNext hC (fun I1 f1 hC1 => ?_)
  have wear : (tK t m s = 147 ∨ tK t m s = 148) → Rd_readNumber I1 (I1 28 5) (fun a11 I12 => Rd_add I12 (I 28 8) a11 (0 : Int32) (fun a14 I15 => Q a14 I15)) := by
    intro hw
    rw [if_pos hw] at K
    refine cWear_k hC1 ?_
    cases hq : spWear t m n (nxt t m s) with
    | error e =>
      rw [hq] at K
      intro x I' g a b c
      exact zAdd a (K _ I' (f1.frR g) a b c)
    | ok p =>
      rw [hq] at K
      intro I2 f2 hC2
      have hp : c + 1 ≤ p.1 := by
        unfold spWear at hq
        split at hq
        · split at hq
          · simp only [Except.ok.injEq] at hq
            subst hq
            have := tE_ge t m (nxt t m s)
            have := tS_ge t m (tE t m (nxt t m s))
            simp only [nxt] at *
            omega
          · exact absurd hq (by simp)
        · exact absurd hq (by simp)
      refine cAdd hC2 hp (fun I3 f3 hC3 i1 i2 i3 => K I3 ((f1.trans f2 (by omega)).trans f3 (by omega)) hC3 (CE.val ?_ ?_))
      · rw [i1, e8, show 138 + (16 * p.2 + (tK t m s - 138)) % 16 = tK t m s by omega]
      · rw [i2, show (16 * p.2 + (tK t m s - 138)) / 16 = p.2 by omega]
  by_cases k6 : tK t m s = 147
  · exact it (e8.trans (by rw [k6]; rfl)) (wear (Or.inl k6))
  refine ie (fun e => k6 ((nk hk.2 e8 (by decide)).mp e)) ?_
  by_cases k7 : tK t m s = 148
  · exact it (e8.trans (by rw [k7]; rfl)) (wear (Or.inr k7))
  refine ie (fun e => k7 ((nk hk.2 e8 (by decide)).mp e)) ?_
  rw [if_neg (by omega)] at K
  refine cAdd hC1 (by omega) (fun I3 f3 hC3 i1 i2 i3 => K I3 (f1.trans f3 (by omega)) hC3 (CE.val ?_ ?_))
  · rw [i1, e8, show 138 + (tK t m s - 138) % 16 = tK t m s by omega]
  · rw [i2, show (tK t m s - 138) / 16 = 0 by omega]; rfl
theorem zPart {RO : HI → Int32 → (Int32 → HI → Prop) → Prop} {x1 : Int32} : CZ (fun I Q => Rd_readPart RO I x1 Q) := by
  intro I Q h K
  show Rd_readPart RO I x1 Q
  unfold Rd_readPart Rd_isNumber
  refine ie (by rw [h]; decide) (ie (by rw [h]; decide) (ie (by rw [h]; decide) (it rfl (it (by rw [h]; decide) ?_))))
  unfold Rd_readPart_b68 Rd_isWord
  exact it (by rw [h]; decide) (it rfl (zStop h (K _)))
def CB (s : Nat) (X : HI → (Int32 → HI → Prop) → Prop) (I : HI) : Prop := ∀ Q : Int32 → HI → Prop, (∀ x I', FrR I I' → I' 28 8 = 130 → I' 28 0 = nI 1 → I' 28 1 = nI s → Q x I') → X I Q
theorem bBin {s : Nat} {X : HI → (Int32 → HI → Prop) → Prop} {op : Nat → Nat} {Lp : (Int32 → HI → Prop) → Nat → HI → Int32 → Int32 → Prop} {I : HI} (hX : CB s X I) (ho : OpOK op) (hL : LoopOK op X Lp) : CB s (fun I Q => X I (fun a I2 => ∃ nn, Lp Q nn I2 a 0)) I := by
  intro Q K
  refine hX _ (fun x I' g a b c => ⟨1, (hL Q).1 0 I' _ _ 130 (by decide) a ?_ (K _ I' g a b c)⟩)
  rcases ho 130 with h | h
  · exact h
  · omega
theorem cOr {t : Nat → Nat} {m n : Nat} (h1n : 1 ≤ n) : ∀ d w, w + d = 6 → CX t m n (fun I Q => Rd_readOr (d + 2) I (nI w) Q) (spOr t m n d) := by
  intro d
  induction d with
  | zero =>
    intro w hw s I c Q hC K
    have : w = 6 := by omega
    subst this
    have hk := tK_ne t m s
    have e8 := hC.2.2.2.2.1
    show Rd_readOr_o (Rd_readOr 1) I (nI 6) Q
    unfold Rd_readOr_o
    refine ie (by decide) ?_
    unfold spOr at K
    have st : (tK t m s = 131 ∨ tK t m s = 132 ∨ 140 ≤ tK t m s ∨ tK t m s = 40) → Rd_stop I (2 : Int32) (fun I20 => Q 0 I20) := fun h => by
      rw [if_pos h] at K
      exact cStop (f := 2) hC (fun I' g a b c => K _ I' g a b c)
    unfold Rd_isNumber
    by_cases k2 : tK t m s = 131
    · exact it (e8.trans (by rw [k2]; rfl)) (ie (by decide) (st (by omega)))
    refine ie (fun e => k2 ((nk hk.2 e8 (by decide)).mp e)) ?_
    by_cases k3 : tK t m s = 132
    · exact it (e8.trans (by rw [k3]; rfl)) (ie (by decide) (st (by omega)))
    refine ie (fun e => k3 ((nk hk.2 e8 (by decide)).mp e)) (it rfl ?_)
    unfold Rd_isWord
    refine ic (fun e => it rfl ?_) (fun e => ie (by decide) (st ?_))
    rotate_left
    · rw [e8] at e
      rcases Nat.lt_or_ge (tK t m s) 140 with h | h
      · exact absurd (nI_lt h (by decide)) e
      · omega
    rw [e8] at e
    have k4 : tK t m s < 140 := (nI_ltI (b := 140) (by omega) (by decide)).mp e
    by_cases k5 : tK t m s = 40
    · exact it (e8.trans (by rw [k5]; rfl)) (st (by omega))
    refine ie (fun e => k5 ((nk hk.2 e8 (by decide)).mp e)) ?_
    rw [if_neg (by omega)] at K
    have b1 : CB s (fun I Q => Rd_readPart (Rd_readOr 1) I (nI 6) Q) I := by
      intro Q' K'
      show Rd_readPart (Rd_readOr 1) I (nI 6) Q'
      unfold Rd_readPart Rd_isNumber
      refine ie (fun e => k5 ((nk hk.2 e8 (by decide)).mp e)) (ie (fun e => k2 ((nk hk.2 e8 (by decide)).mp e)) (ie (fun e => k3 ((nk hk.2 e8 (by decide)).mp e)) (it rfl (it (by rw [e8]; exact nI_lt (show tK t m s < 144 by omega) (by decide)) ?_))))
      unfold Rd_readPart_b68 Rd_isWord
      exact it (by rw [e8]; exact nI_lt (show tK t m s < 140 by omega) (by decide)) (it rfl (cStop (f := 1) hC (fun I' g a b c => K' _ I' g a b c)))
    have b2 : CB s (fun I Q => Rd_readProduct (Rd_readOr 1) I (nI 6) Q) I := bBin b1 oP (lP _ _)
    have b3 : CB s (fun I Q => Rd_readSum (Rd_readOr 1) I (nI 6) Q) I := bBin b2 oS (lS _ _)
    have b4 : CB s (fun I Q => Rd_readTest (Rd_readOr 1) I (nI 6) Q) I := by
      intro Q' K'
      show Rd_readTest (Rd_readOr 1) I (nI 6) Q'
      unfold Rd_readTest
      exact b3 _ (fun x I' g a b c => ie (by rw [a]; decide) (ie (by rw [a]; decide) (K' _ I' g a b c)))
    have b5 : CB s (fun I Q => Rd_readNot (Rd_readOr 1) I (nI 6) Q) I := by
      intro Q' K'
      refine ⟨1, ?_⟩
      show Rd_readNot_l4 (Rd_readOr 1) (nI 6) Q' 1 I 0 0
      unfold Rd_readNot_l4
      have k9 : ¬ I 28 8 = 151 := fun e => by have := (nk hk.2 e8 (c := 151) (by decide)).mp e; omega
      refine ie (by decide) (ie k9 ?_)
      unfold Rd_readNot_b33
      refine ie k9 ?_
      unfold Rd_readNot_b48
      exact b4 _ (fun x I' g a b c => ⟨1, z_l57 a (fun x => K' x I' g a b c) 0 (by omega) 0 0 x rfl⟩)
    have b6 : CB s (fun I Q => Rd_readAnd (Rd_readOr 1) I (nI 6) Q) I := bBin b5 oA (lA _ _)
    have b7 := bBin b6 oO (lO _ _)
    exact b7 Q K
  | succ d ih =>
    intro w hw s I c Q hC K
    show Rd_readOr_o (Rd_readOr (d + 2)) I (nI w) Q
    unfold Rd_readOr_o
    refine it (nI_le (show w ≤ 5 by omega) (by decide)) ?_
    have c0 : CX t m n (fun I Q => Rd_readOr (d + 2) I (nI w + 1) Q) (spOr t m n d) := by rw [nI_1]; exact ih (w + 1) (by omega)
    have s0 := SP_or (t := t) (m := m) h1n d
    have s1 := SP_part (t := t) s0 h1n
    have c1 := cPart c0 s0
    have s2 := SP_bin (t := t) s1 opP_ok
    have c2 : CX t m n (fun I Q => Rd_readProduct (Rd_readOr (d + 2)) I (nI w) Q) _ := cBin c1 s1 oP (lP _ _)
    have z2 : CZ (fun I Q => Rd_readProduct (Rd_readOr (d + 2)) I (nI w) Q) := zBin zPart oP (lP _ _)
    have s3 := SP_bin (t := t) s2 opS_ok
    have c3 : CX t m n (fun I Q => Rd_readSum (Rd_readOr (d + 2)) I (nI w) Q) _ := cBin c2 s2 oS (lS _ _)
    have z3 : CZ (fun I Q => Rd_readSum (Rd_readOr (d + 2)) I (nI w) Q) := zBin z2 oS (lS _ _)
    have s4 := SP_test (t := t) s3
    have c4 := cTest c3 s3
    have z4 := zTest z3
    have s5 := SP_not (t := t) s4 6
    have c5 := cNot c4 z4 s4
    have s6 := SP_bin (t := t) s5 opA_ok
    have c6 : CX t m n (fun I Q => Rd_readAnd (Rd_readOr (d + 2)) I (nI w) Q) _ := cBin c5 s5 oA (lA _ _)
    have c7 := cBin c6 s6 oO (lO _ _)
    exact c7 s I c Q hC K
theorem zOr (d : Nat) : CZ (fun I Q => Rd_readOr (d + 1) I 0 Q) := by
  intro I Q h K
  show Rd_readOr_o (Rd_readOr d) I 0 Q
  unfold Rd_readOr_o
  refine it (by decide) ?_
  have z2 : CZ (fun I Q => Rd_readProduct (Rd_readOr d) I 0 Q) := zBin zPart oP (lP _ _)
  have z3 : CZ (fun I Q => Rd_readSum (Rd_readOr d) I 0 Q) := zBin z2 oS (lS _ _)
  have z5 := zNot (zTest z3)
  have z6 : CZ (fun I Q => Rd_readAnd (Rd_readOr d) I 0 Q) := zBin z5 oA (lA _ _)
  have z7 := zBin z6 oO (lO _ _)
  exact z7 I Q h K
