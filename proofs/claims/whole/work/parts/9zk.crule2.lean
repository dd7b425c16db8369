/-! rules: the class reads a rule -/
theorem cExpect {t : Nat → Nat} {m n s c k : Nat} {I : HI} {Q : HI → Prop} (h : CS t m n I s c) (hk : k < 256) (K1 : tK t m s = k → ∀ I', FrK c I I' → CS t m n I' (nxt t m s) c → Q I') (K2 : tK t m s ≠ k → ∀ I', FrR I I' → I' 28 8 = 130 → I' 28 0 = nI 1 → I' 28 1 = nI s → Q I') : Rd_expect I (nI k) Q := by
  have hk2 := tK_ne t m s
  have e8 := h.2.2.2.2.1
  unfold Rd_expect
  refine ic (fun e => ?_) (fun e => ?_)
  · exact cNext h (K1 ((nk hk2.2 e8 (by omega)).mp e))
  · exact cStop (f := 1) h (K2 (fun e2 => e (e8.trans (by rw [e2]))))
theorem FrK.z {c : Nat} {I I' : HI} (h : FrK c I I') : FrK 0 I I' := fun a i n n2 => h a i n (fun e => n2 ⟨e.1, Nat.zero_le _⟩)
theorem FrK.fR {c : Nat} {I I' : HI} (h : FrK c I I') : FrR I I' := fun a i n1 n2 n3 n4 => h a i (fun e => n1 e.1) (fun e => by omega)
theorem FrR.trans {I I1 I2 : HI} (h : FrR I I1) (h2 : FrR I1 I2) : FrR I I2 := fun a i n1 n2 n3 n4 => (h2 a i n1 n2 n3 n4).trans (h a i n1 n2 n3 n4)
theorem FrT.fR {I I' : HI} (h : FrT I I') : FrR I I' := fun a i n1 n2 n3 n4 => h a i (fun e => n1 e.1)
def GQ (t : Nat → Nat) (m n : Nat) (own : Nat → Nat) (ro : Nat) (I : HI) (T F : HR) (L : HL) (Q : HI → HR → HR → HL → Prop) (r : Except (Nat × Nat) (Nat × RuT)) : Prop := match r with
  | .error e => ∀ I', FrR I I' → I' 28 8 = 130 → I' 28 0 = nI e.1 → I' 28 1 = nI e.2 → Q I' T F L
  | .ok r => ∀ I1 f I' F' L' own', FrK 0 I I1 → CR t m n I1 r.1 → FrmM own ro I1 F L r.2.2 f I' F' L' own' → F' 28 3 = some 34 → Geo F' L' → Q I' (up2 T 29 r.2.1 (some f)) F' L'
def GB (r : Except (Nat × Nat) (Nat × RuT)) : Nat := match r with
  | .error _ => 0
  | .ok r => 5 + 4 * ((r.2.2.1.getD []).length + r.2.2.2.length)
theorem zGuess {I : HI} {T F : HR} {L : HL} {b : Nat} {x1 x2 : Int32} {Q : HI → HR → HR → HL → Prop} (a : I 28 8 = 130) (K : Q I T F L) : Rd_readRule_b45 I T F L b x1 x2 Q := by
  unfold Rd_readRule_b45
  exact zExpect a (by decide) (zOr 7 I _ a (fun x => zExpect a (by decide) (it a K)))
theorem rGuess {t : Nat → Nat} {m n s c w b : Nat} {P : Option AC} {I : HI} {T F : HR} {L : HL} {own : Nat → Nat} {ro : Nat} {x1 x2 : Int32} {Q : HI → HR → HR → HL → Prop} (h1n : 1 ≤ n) (O : Own own ro L) (hG : Geo F L) (h3 : F 28 3 = some 34) (hC : CS t m n I s c) (hc : c = (P.getD []).length) (hPc : ∀ p, P = some p → CE I p 0) (hw : w < 8) (hx1 : x1 = nI w) (hx2 : x2 = nI c) (hb : b = GB (spGuess t m n s P w)) (K : GQ t m n own ro I T F L Q (spGuess t m n s P w)) : Rd_readRule_b45 I T F L b x1 x2 Q := by
  have hsm := hC.2.1
  have hm := hC.1.2.1
  have hcs := hC.2.2.2.2.2.2.2.2.2
  unfold Rd_readRule_b45
  refine cExpect (k := 143) hC (by decide) (fun e I1 f1 hC1 => ?_) (fun e I1 g a b c => ?_)
  · have hn2 := nxt_le t hsm
    refine (cOr h1n 6 0 (by decide)) _ I1 c _ hC1 ?_
    cases hq : spOr t m n 6 (nxt t m s) with
    | error e1 =>
      have es : spGuess t m n s P w = .error e1 := by unfold spGuess; rw [if_pos e, hq]
      rw [es] at K
      intro x I2 g a b c
      exact zExpect a (by decide) (it a (K I2 (f1.fR.trans g) a b c))
    | ok r =>
      obtain ⟨a1, a2, a3, a4⟩ := SP_or h1n 6 _ hn2 r hq
      intro I2 f2 hC2 hE2
      refine cExpect (k := 59) hC2 (by decide) (fun e3 I3 f3 hC3 => ?_) (fun e3 I3 g a b c => ?_)
      · have es : spGuess t m n s P w = .ok (nxt t m r.1, w, P, r.2) := by unfold spGuess; rw [if_pos e, hq]; simp only; rw [if_pos e3]
        have hok := spGuess_ok h1n hsm es
        rw [es] at K hb
        simp only [GB] at hb
        simp only at hok
        refine ie hC3.cr.ne ?_
        refine Frm_rule_k (c := (P, r.2)) (N := c + r.2.length) (w := w) O hG h3 hC3.2.2.2.2.2.2.2.2.1 (by omega) (by rw [hb, hc]) (by rw [hc]) hx1 hw (by rw [hx2, hc]) (fun I' k l q hi => ⟨?_, ?_⟩) (fun f I' F' L' own' hF h4 h5 => K I3 f I' F' L' own' ((f1.z.trans f2.z (Nat.le_refl _)).trans f3.z (Nat.le_refl _)) hC3.cr hF h4 h5)
        · cases hP : P with
          | none => trivial
          | some p =>
            have hl : p.length = c := by rw [hc, hP]; rfl
            have h0 := hPc p hP
            have h1 := ((h0.fr f1 (by omega)).fr f2 (by omega)).fr f3 (by omega)
            have := h1 I' k l q (fun i h1 h2 => hi i (by omega)) [] [] trivial
            rw [List.append_nil] at this
            exact this
        · have h1 := hE2.fr f3 (by omega)
          have := h1 I' k l q (fun i h1 h2 => hi i (by omega)) [] [] trivial
          rw [List.append_nil, hc] at this
          exact this
      · have es : spGuess t m n s P w = .error (1, r.1) := by unfold spGuess; rw [if_pos e, hq]; simp only; rw [if_neg e3]
        rw [es] at K
        exact it a (K I3 (f1.fR.trans (f2.fR.trans g)) a b c)
  · have es : spGuess t m n s P w = .error (1, s) := by unfold spGuess; rw [if_neg e]
    rw [es] at K
    exact zOr 7 I1 _ a (fun x => zExpect a (by decide) (it a (K I1 g a b c)))
theorem rRule {t : Nat → Nat} {m n s b : Nat} {I : HI} {T F : HR} {L : HL} {own : Nat → Nat} {ro : Nat} {Q : HI → HR → HR → HL → Prop} (h1n : 1 ≤ n) (O : Own own ro L) (hG : Geo F L) (h3 : F 28 3 = some 34) (hR : CR t m n I s) (hb : b = GB (spRule t m n s)) (K : GQ t m n own ro I T F L Q (spRule t m n s)) : Rd_readRule I T F L b Q := by
  unfold Rd_readRule
  unfold spRule at K hb
  have hn8 := hR.2.2.2.2.2.2.2
  refine rNext hR (fun I1 f1 hR1 => rWear hR1 ?_)
  cases hq : spWear t m n (nxt t m s) with
  | error e =>
    rw [hq] at K
    intro x I4 g a b c
    have a8 : (up2 I4 28 13 0) 28 8 = 130 := by rw [up2_idx _ _ _ (by decide)]; exact a
    refine ie (by rw [a8]; decide) (zGuess a8 (K _ (fun a i n1 n2 n3 n4 => ?_) a8 (by rw [up2_idx _ _ _ (by decide)]; exact b) (by rw [up2_idx _ _ _ (by decide)]; exact c)))
    rw [up2_ne _ _ _ n1]
    exact (f1.fR.trans g) a i n1 n2 n3 n4
  | ok p =>
    rw [hq] at K hb
    simp only at K hb
    intro I4 f4 hR4
    have hp2 : p.2 < n := by
      unfold spWear at hq
      split at hq
      · split at hq
        · rename_i hv
          simp only [Except.ok.injEq] at hq
          subst hq
          exact hv
        · exact absurd hq (by simp)
      · exact absurd hq (by simp)
    have fK : FrK 0 I4 (up2 I4 28 13 0) := fun a i n1 n2 => by rw [up2_get, if_neg (fun e => n1 ⟨e.1, Or.inr e.2⟩)]
    have f04 : FrK 0 I (up2 I4 28 13 0) := ((FrT.frK (c := 0) f1).trans (FrT.frK (c := 0) f4) (Nat.le_refl _)).trans fK (Nat.le_refl _)
    have hC5 : CS t m n (up2 I4 28 13 0) p.1 0 := by
      obtain ⟨c1, c2, c3, c4, c5, c6, c7, c8⟩ := hR4
      have u : ∀ i, i ≠ 13 → (up2 I4 28 13 0) 28 i = I4 28 i := fun i h => up2_idx _ _ _ h
      exact ⟨⟨(u 4 (by decide)).trans c1.1, c1.2.1, fun k hk => ⟨(fK 34 k (by omega) (by omega)).trans (c1.2.2 k hk).1, (c1.2.2 k hk).2⟩⟩, c2, (u 6 (by decide)).trans c3, (u 7 (by decide)).trans c4, (u 8 (by decide)).trans c5, fun h => (u 9 (by decide)).trans (c6 h), (u 5 (by decide)).trans c7, c8, up2_same _ _ _ _, Nat.zero_le _⟩
    have e8 := hC5.2.2.2.2.1
    have hk2 := tK_ne t m p.1
    by_cases hk : tK t m p.1 = 142
    · rw [if_pos hk] at K hb
      refine it (e8.trans (by rw [hk]; rfl)) (cNext hC5 (fun I6 f6 hC6 => (cOr h1n 6 0 (by decide)) _ I6 0 _ hC6 ?_))
      have hn2 := nxt_le t hR4.2.1
      cases hq2 : spOr t m n 6 (nxt t m p.1) with
      | error e =>
        rw [hq2] at K
        intro x I7 g a b c
        exact zGuess a (K I7 (f04.fR.trans (f6.fR.trans g)) a b c)
      | ok q =>
        rw [hq2] at K hb
        obtain ⟨a1, a2, a3, a4⟩ := SP_or h1n 6 _ hn2 q hq2
        intro I7 f7 hC7 hE7
        refine rGuess (P := some q.2) (w := p.2) h1n O hG h3 hC7 (by simp) (fun p hp => by simp only [Option.some.injEq] at hp; rw [← hp]; exact hE7) (by omega) rfl hC7.2.2.2.2.2.2.2.2.1 hb ?_
        simp only at K
        have f07 : FrK 0 I I7 := (f04.trans f6.z (Nat.le_refl _)).trans f7.z (Nat.le_refl _)
        cases hg : spGuess t m n q.1 (some q.2) p.2 with
        | error e =>
          rw [hg] at K
          intro I' g a b c
          exact K I' (f07.fR.trans g) a b c
        | ok r =>
          rw [hg] at K
          intro I8 f I' F' L' own' k1 k2 k3 k4 k5
          exact K I8 f I' F' L' own' (f07.trans k1 (Nat.le_refl _)) k2 k3 k4 k5
    · rw [if_neg hk] at K hb
      refine ie (fun e => hk ((nk hk2.2 e8 (c := 142) (by decide)).mp e)) ?_
      refine rGuess (P := none) (w := p.2) h1n O hG h3 hC5 rfl (fun p hp => by simp at hp) (by omega) rfl rfl hb ?_
      cases hg : spGuess t m n p.1 none p.2 with
      | error e =>
        rw [hg] at K
        intro I' g a b c
        exact K I' (f04.fR.trans g) a b c
      | ok r =>
        rw [hg] at K
        intro I8 f I' F' L' own' k1 k2 k3 k4 k5
        exact K I8 f I' F' L' own' (f04.trans k1 (Nat.le_refl _)) k2 k3 k4 k5
