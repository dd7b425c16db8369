/-! the class's net: another round -/
def rdn (a : AN) (w ρ : Nat) : Nat → Nat := upn (ard a) w ρ
abbrev same (a : AN) (w ρ k : Nat) : Prop := hr (an a) (ard a) k = hr (an a) (rdn a w ρ) k
def aRound (a : AN) (w ρ : Nat) : AN := (an a, aq a, alk a, rdn a w ρ, fun k => if same a w ρ k then akd a k else if akd a k = 1 then 1 else if vw (an a) (aq a) (alk a) (rdn a w ρ) k ≤ 1024 then 0 else 2, fun k => if same a w ρ k then atb a k else fun _ => 0, acd a)
theorem vw_same {a : AN} {w ρ k : Nat} (h : same a w ρ k) : vw (an a) (aq a) (alk a) (rdn a w ρ) k = avw a k := by
  show _ = vw (an a) (aq a) (alk a) (ard a) k
  unfold vw
  rw [← h]
theorem aR_v (a : AN) (w ρ k : Nat) : avw (aRound a w ρ) k = vw (an a) (aq a) (alk a) (rdn a w ρ) k := rfl
theorem aR_k {a : AN} {w ρ k : Nat} (h : same a w ρ k) : akd (aRound a w ρ) k = akd a k := if_pos h
theorem aR_t {a : AN} {w ρ k : Nat} (h : same a w ρ k) : atb (aRound a w ρ) k = atb a k := if_pos h
theorem aR_t0 {a : AN} {w ρ k : Nat} (h : ¬ same a w ρ k) : atb (aRound a w ρ) k = fun _ => 0 := if_neg h
theorem aRound_kd1 (a : AN) (w ρ k : Nat) : akd (aRound a w ρ) k = 1 ↔ akd a k = 1 := by
  show (if same a w ρ k then akd a k else if akd a k = 1 then 1 else if _ ≤ 1024 then 0 else 2) = 1 ↔ _
  by_cases h : same a w ρ k
  · rw [if_pos h]
  · rw [if_neg h]
    by_cases h1 : akd a k = 1
    · rw [if_pos h1]; simp [h1]
    · rw [if_neg h1]; split <;> simp [h1]
theorem aRound_WF {a : AN} {w ρ : Nat} (W : WF a) (hρ : ρ ≤ 7) : WF (aRound a w ρ) := by
  obtain ⟨w1, w2, w3, w4, w5, w6⟩ := W
  refine ⟨w1, w2, w3, w4, w5, fun k hk => ?_⟩
  have hk : k < an a := hk
  obtain ⟨g1, g2, g3, g4, g5⟩ := w6 k hk
  refine ⟨g1, g2, ?_, ?_, ?_⟩
  · show rdn a w ρ k ≤ 7
    unfold rdn upn; split
    · exact hρ
    · exact g3
  · show ((if same a w ρ k then akd a k else _) = 1 ∧ _) ∨ (if same a w ρ k then akd a k else _) = if vw (an a) (aq a) (alk a) (rdn a w ρ) k ≤ 1024 then 0 else 2
    by_cases h : same a w ρ k
    · rw [if_pos h, vw_same h]; exact g4
    · rw [if_neg h]
      by_cases h1 : akd a k = 1
      · left
        refine ⟨if_pos h1, ?_⟩
        rcases g4 with g4 | g4
        · exact g4.2
        · rw [h1] at g4; split at g4 <;> omega
      · right; exact if_neg h1
  · show (if same a w ρ k then akd a k else _) = 0 → ∀ v, v < vw (an a) (aq a) (alk a) (rdn a w ρ) k → (if same a w ρ k then atb a k else fun _ => 0) v ≤ aq a
    by_cases h : same a w ρ k
    · rw [if_pos h, if_pos h, vw_same h]; exact g5
    · rw [if_neg h, if_neg h]; intro _ v _; exact Nat.zero_le _
/-- while the rounds' change goes through the wearers -/
def RI (I : HI) (r : Nat) (a : AN) (w ρ i : Nat) : Prop := I r 0 = nI (an a) ∧ I r 1 = nI (aq a) ∧ I r 2 = nI (aq a ^ an a) ∧ (∀ k, k < an a → I (r + 1) k = nI (alk a k)) ∧ (∀ k, k < an a → I (r + 2) k = nI (rdn a w ρ k)) ∧ (∃ o, Ordd (an a) (rdn a w ρ) o ∧ ∀ j, j < an a → I (r + 5) j = nI (o j)) ∧ (∀ j, j < 8192 → byt (I (r + 7) j)) ∧
  (∀ k, k < an a → k < i → I (r + 3) k = nI (hr (an a) (rdn a w ρ) k) ∧ I (r + 4) k = vwi (avw (aRound a w ρ) k) ∧ (akd (aRound a w ρ) k = 0 → ∀ v, v < avw (aRound a w ρ) k → I (r + 7) (1024 * k + v) = nI (atb (aRound a w ρ) k v))) ∧
  ∀ k, k < an a → i ≤ k → I (r + 3) k = nI (hr (an a) (ard a) k) ∧ I (r + 4) k = vwi (avw a k) ∧ (akd a k = 0 → ∀ v, v < avw a k → I (r + 7) (1024 * k + v) = nI (atb a k v))
theorem Net_guessIn_l {r w ρ : Nat} {a : AN} (W : WF a) (hρ : ρ ≤ 7) {I0 : HI} {Q : HI → Prop} (h : ∀ I', Fr (nP r) I0 I' → CN I' r (aRound a w ρ) → Q I') : ∀ d i I, i + d = an a → Fr (nP r) I0 I → RI I r a w ρ i → Net_guessIn_l13 r Q (d + 1) I (nI i) := by
  have W2 := aRound_WF (w := w) W hρ
  obtain ⟨w1, w2, w3, w4, w5, w6⟩ := id W
  have h256 := p2le w2
  have h7 : ∀ k, k < an a → rdn a w ρ k ≤ 7 := fun k hk => (W2.2.2.2.2.2 k hk).2.2.1
  intro d
  induction d with
  | zero =>
    intro i I hi f R
    obtain ⟨e0, e1, e2, e3, e4, e5, e6, e7, e8⟩ := R
    rw [Net_guessIn_l13, e0]
    refine it (nI_le (by omega) (by omega)) (h I f ⟨e0, e1, e2, e3, e4, fun k hk => (e7 k hk (by have : k < an a := hk; omega)).1, fun k hk => (e7 k hk (by have : k < an a := hk; omega)).2.1, e5, e6, fun k hk => (e7 k hk (by have : k < an a := hk; omega)).2.2⟩)
  | succ d ih =>
    intro i I hi f R
    have R0 := R
    obtain ⟨e0, e1, e2, e3, e4, e5, e6, e7, e8⟩ := R
    have hin : i < an a := by omega
    rw [Net_guessIn_l13, e0]
    refine ie (nI_ge (by omega) (by omega)) ⟨vin (by omega) (by omega), ?_⟩
    rw [nx_nI (by omega), e4 i hin]
    refine Net_earlier_k w2 e0 e4 h7 hin ⟨vin (by omega) (by omega), ?_⟩
    obtain ⟨g1, g2, g3⟩ := e8 i hin (Nat.le_refl _)
    rw [g1, nI_1]
    have l1 := hr_lt (an a) (ard a) i
    have l2 := hr_lt (an a) (rdn a w ρ) i
    refine ic (fun hc => ?_) (fun hc => ?_)
    · rw [nI_eq (by omega) (by omega)] at hc
      have hs : same a w ρ i := hc
      refine ih (i + 1) I (by omega) f ⟨e0, e1, e2, e3, e4, e5, e6, fun k hk hki => ?_, fun k hk hki => e8 k hk (by omega)⟩
      by_cases e : k = i
      · subst e
        have ev : avw (aRound a w ρ) k = avw a k := (aR_v a w ρ k).trans (vw_same hs)
        have ek := aR_k hs
        have et := aR_t hs
        rw [ev, ek, et, g1, hc]
        exact ⟨rfl, g2, g3⟩
      · exact e7 k hk (by omega)
    · rw [nI_eq (by omega) (by omega)] at hc
      have hs : ¬ same a w ρ i := hc
      refine ⟨vin (by omega) (by omega), ?_⟩
      have f0 : Fr (fun x j => x = r + 3 ∧ j = i) I (up2 I (r + 3) i (nI (hr (an a) (rdn a w ρ) i))) := Fr.rf.up ⟨rfl, rfl⟩
      refine Net_clearTable_k (l := alk a i) (h := hr (an a) (rdn a w ρ) i) ((f0 _ _ (by omega)).trans e0) ((f0 _ _ (by omega)).trans e1) ((f0 _ _ (by omega)).trans (e3 i hin)) (up2_same _ _ _ _) (w6 i hin).1 l2 w2 w3 w4 (by omega) (fun I' f1 ho hv hz => ?_)
      have ev : avw (aRound a w ρ) i = aq a ^ pop (alk a i) * (aq a + 1) ^ pop (hr (an a) (rdn a w ρ) i) := by rw [aR_v]; unfold vw; rfl
      rw [← ev] at hv hz
      have fa : ∀ x j, ¬ (x = r + 3 ∧ j = i) → ¬ ctP r i x j → I' x j = I x j := fun x j h1 h2 => (f1 x j h2).trans (f0 x j h1)
      refine ih (i + 1) I' (by omega) (f.tr ((f0.mono (fun x j hx => by unfold nP; omega)).tr (f1.mono ctP_n))) ⟨?_, ?_, ?_, fun k hk => ?_, fun k hk => ?_, ?_, fun j hj => ?_, fun k hk hki => ?_, fun k hk hki => ?_⟩
      · rw [fa _ _ (by omega) (by unfold ctP; omega)]; exact e0
      · rw [fa _ _ (by omega) (by unfold ctP; omega)]; exact e1
      · rw [fa _ _ (by omega) (by unfold ctP; omega)]; exact e2
      · rw [fa _ _ (by omega) (by unfold ctP; omega)]; exact e3 k hk
      · rw [fa _ _ (by omega) (by unfold ctP; omega)]; exact e4 k hk
      · obtain ⟨o, h1, h2⟩ := e5
        exact ⟨o, h1, fun j hj => by rw [fa _ _ (by omega) (by unfold ctP; omega)]; exact h2 j hj⟩
      · rcases ho j with h9 | h9
        · rw [h9, f0 _ _ (by omega)]; exact e6 j hj
        · rw [h9]; exact byt0
      · by_cases e : k = i
        · subst e
          refine ⟨?_, hv, fun h0 v hvk => ?_⟩
          · rw [f1 _ _ (by unfold ctP; omega)]; exact up2_same _ _ _ _
          · have et := aR_t0 hs
            rw [et]
            exact hz (W2.k1 k hk h0) v hvk
        · obtain ⟨p1, p2, p3⟩ := e7 k hk (by omega)
          refine ⟨?_, ?_, fun h0 v hvk => ?_⟩
          · rw [fa _ _ (by omega) (by unfold ctP; omega)]; exact p1
          · rw [fa _ _ (by omega) (by unfold ctP; omega)]; exact p2
          · have := W2.k1 k hk h0
            rw [fa _ _ (by omega) (by unfold ctP; omega)]; exact p3 h0 v hvk
      · obtain ⟨p1, p2, p3⟩ := e8 k hk (by omega)
        refine ⟨?_, ?_, fun h0 v hvk => ?_⟩
        · rw [fa _ _ (by omega) (by unfold ctP; omega)]; exact p1
        · rw [fa _ _ (by omega) (by unfold ctP; omega)]; exact p2
        · have := W.k1 k hk h0
          rw [fa _ _ (by omega) (by unfold ctP; omega)]; exact p3 h0 v hvk
theorem Net_guessIn_k {I : HI} {T F : HR} {L : HL} {own : Nat → Nat} {r w ρ : Nat} {a : AN} (W : WF a) (N : CN I r a) (C : CT I T F L own r a) (hw : w < an a) (hρ : ρ ≤ 7) {Q : HI → Prop} (h : ∀ I', Fr (nP r) I I' → CN I' r (aRound a w ρ) → CT I' T F L own r (aRound a w ρ) → Q I') : Net_guessIn I r (nI w) (nI ρ) Q := by
  obtain ⟨e0, e1, e2, e3, e4, e5, e6, e7, e8, e9⟩ := N
  have w2 := W.2.1
  have h7 : ∀ k, k < an a → rdn a w ρ k ≤ 7 := fun k hk => ((aRound_WF (w := w) W hρ).2.2.2.2.2 k hk).2.2.1
  unfold Net_guessIn
  refine ⟨vin (by omega) (by omega), ?_⟩
  rw [nx_nI (by omega)]
  have f0 : Fr (fun x j => x = r + 2 ∧ j = w) I (up2 I (r + 2) w (nI ρ)) := Fr.rf.up ⟨rfl, rfl⟩
  refine Net_order_k (n := an a) (rd := rdn a w ρ) w2 h7 ((f0 _ _ (by omega)).trans e0) (fun k hk => ?_) (fun I1 o f1 ho hO => ?_)
  · unfold rdn upn
    by_cases e : k = w
    · subst e; rw [if_pos rfl, up2_same]
    · rw [if_neg e, f0 _ _ (by omega)]; exact e4 k hk
  · have fa : ∀ x j, ¬ (x = r + 2 ∧ j = w) → ¬ orP r x j → I1 x j = I x j := fun x j h1 h2 => (f1 x j h2).trans (f0 x j h1)
    have fn : Fr (nP r) I I1 := (f0.mono (fun x j hx => by unfold nP; omega)).tr (f1.mono (fun x j hx => by unfold orP at hx; unfold nP; omega))
    refine ⟨an a + 1, Net_guessIn_l W hρ (I0 := I) (fun I' f' N' => h I' f' N' (CT_abl C w2 rfl rfl (fun k _ => aRound_kd1 a w ρ k) f')) (an a) 0 I1 (by omega) fn ⟨?_, ?_, ?_, fun k hk => ?_, fun k hk => ?_, ⟨o, hO, ho⟩, fun j hj => ?_, fun k hk hki => by omega, fun k hk hki => ⟨?_, ?_, fun h0 v hv => ?_⟩⟩⟩
    · rw [fa _ _ (by omega) (by unfold orP; omega)]; exact e0
    · rw [fa _ _ (by omega) (by unfold orP; omega)]; exact e1
    · rw [fa _ _ (by omega) (by unfold orP; omega)]; exact e2
    · rw [fa _ _ (by omega) (by unfold orP; omega)]; exact e3 k hk
    · rw [f1 _ _ (by unfold orP; omega)]
      unfold rdn upn
      by_cases e : k = w
      · subst e; rw [if_pos rfl, up2_same]
      · rw [if_neg e, f0 _ _ (by omega)]; exact e4 k hk
    · rw [fa _ _ (by omega) (by unfold orP; omega)]; exact e8 j hj
    · rw [fa _ _ (by omega) (by unfold orP; omega)]; exact e5 k hk
    · rw [fa _ _ (by omega) (by unfold orP; omega)]; exact e6 k hk
    · rw [fa _ _ (by omega) (by unfold orP; omega)]; exact e9 k hk h0 v hv
