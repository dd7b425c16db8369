/-! the class's net: all look at all at once; a new hall -/
def z0 : Nat → Nat := fun _ => 0
def aOpen (n q : Nat) : AN := (n, q, oth n, z0, fun w => if vw n q (oth n) z0 w ≤ 1024 then 0 else 2, fun _ _ => 0, fun _ => (none, []))
theorem msk_false {n : Nat} : msk (fun _ => false) n = 0 := by
  induction n with
  | zero => rfl
  | succ n ih => rw [msk_succ, if_neg (by decide), ih]
theorem hr0 (n w : Nat) : hr n z0 w = 0 := by
  unfold hr
  rw [← msk_false (n := n)]
  exact msk_cong (fun k _ => by simp [z0])
theorem oth_bit (n w : Nat) : (oth n w).testBit w = false := by unfold oth; rw [msk_bit]; simp
theorem aOpen_WF {n q : Nat} (h1 : 1 ≤ n) (h8 : n ≤ 8) (h2 : 2 ≤ q) (h4 : q ≤ 4) (hr : q ^ n ≤ 6561) : WF (aOpen n q) :=
  ⟨h1, h8, h2, h4, hr, fun w _ => ⟨oth_lt n w, oth_bit n w, Nat.zero_le _, Or.inr rfl, fun _ _ _ => Nat.zero_le _⟩⟩
theorem aO_v (n q k : Nat) : avw (aOpen n q) k = vw n q (oth n) z0 k := rfl
theorem vw_o (n q k : Nat) : vw n q (oth n) z0 k = q ^ pop (oth n k) * (q + 1) ^ pop 0 := by unfold vw; rw [hr0]
theorem Ordd_id (n : Nat) : Ordd n z0 id := ⟨fun i hi => hi, fun _ _ _ _ => Nat.le_refl _, fun w hw => ⟨w, hw, rfl⟩⟩
def OI (I : HI) (r n q i : Nat) : Prop := I r 0 = nI n ∧ I r 1 = nI q ∧ I r 2 = nI (q ^ n) ∧ (∀ j, j < 8192 → byt (I (r + 7) j)) ∧ ∀ k, k < i → I (r + 1) k = nI (oth n k) ∧ I (r + 2) k = 0 ∧ I (r + 3) k = 0 ∧ I (r + 4) k = vwi (vw n q (oth n) z0 k) ∧ I (r + 5) k = nI k ∧ (vw n q (oth n) z0 k ≤ 1024 → ∀ v, v < vw n q (oth n) z0 k → I (r + 7) (1024 * k + v) = 0)
theorem Net_all_k {I0 : HI} {T0 : HR} {L : HL} {r n q : Nat} (h8 : n ≤ 8) (h2 : 2 ≤ q) (h4 : q ≤ 4) (O : OI I0 r n q 0) {Q : HI → HR → Prop} (h : ∀ I' T', Fr (nP r) I0 I' → CN I' r (aOpen n q) → (∀ w, w < n → T' (r + 6) w = none) → (∀ b j, ¬ (b = r + 6 ∧ j < n) → T' b j = T0 b j) → Q I' T') : Net_lookAtAllAtOnce I0 T0 L r Q := by
  have key : ∀ d i I T, i + d = n → Fr (nP r) I0 I → OI I r n q i → (∀ w, w < i → T (r + 6) w = none) → (∀ b j, ¬ (b = r + 6 ∧ j < n) → T b j = T0 b j) → Net_lookAtAllAtOnce_l2 L r Q (d + 1) I T (nI i) := by
    intro d
    induction d with
    | zero =>
      intro i I T hi f O ht hb
      have : i = n := by omega
      subst this
      obtain ⟨e0, e1, e2, e3, e4⟩ := O
      rw [Net_lookAtAllAtOnce_l2, e0]
      refine it (nI_le (Nat.le_refl _) (by omega)) (h I T f ⟨e0, e1, e2, fun k hk => (e4 k hk).1, fun k hk => (e4 k hk).2.1, fun k hk => ?_, fun k hk => (e4 k hk).2.2.2.1, ⟨id, Ordd_id _, fun k hk => (e4 k hk).2.2.2.2.1⟩, e3, fun k hk h0 v hv => ?_⟩ ht hb)
      · show I (r + 3) k = nI (hr i z0 k)
        rw [hr0]; exact (e4 k hk).2.2.1
      · have h0 : (if vw i q (oth i) z0 k ≤ 1024 then 0 else 2) = 0 := h0
        refine (e4 k hk).2.2.2.2.2 ?_ v hv
        by_cases h9 : vw i q (oth i) z0 k ≤ 1024
        · exact h9
        · rw [if_neg h9] at h0; omega
    | succ d ih =>
      intro i I T hi f O ht hb
      obtain ⟨e0, e1, e2, e3, e4⟩ := O
      rw [Net_lookAtAllAtOnce_l2, e0]
      refine ie (nI_ge (by omega) (by omega)) ?_
      unfold Net_othersOf
      rw [e0, nShl1 n (by omega), nlit1, nS Nat.one_le_two_pow, ← nlit1, nShl1 i (by omega), oth_k n (by omega) i (by omega), nx_nI (by omega), nI_1]
      refine ⟨vin (by omega) (by omega), vin (by omega) (by omega), vin (by omega) (by omega), vin (by omega) (by omega), ?_⟩
      have f0 : Fr (fun x j => (x = r + 1 ∨ x = r + 2 ∨ x = r + 3 ∨ x = r + 5) ∧ j = i) I (up2 (up2 (up2 (up2 I (r + 1) i (nI (oth n i))) (r + 2) i 0) (r + 3) i 0) (r + 5) i (nI i)) := (((Fr.rf.up ⟨by omega, rfl⟩).up ⟨by omega, rfl⟩).up ⟨by omega, rfl⟩).up ⟨by omega, rfl⟩
      have g1 : (up2 (up2 (up2 (up2 I (r + 1) i (nI (oth n i))) (r + 2) i 0) (r + 3) i 0) (r + 5) i (nI i)) (r + 1) i = nI (oth n i) := by rw [up2_get, if_neg (by omega), up2_get, if_neg (by omega), up2_get, if_neg (by omega), up2_same]
      have g2 : (up2 (up2 (up2 (up2 I (r + 1) i (nI (oth n i))) (r + 2) i 0) (r + 3) i 0) (r + 5) i (nI i)) (r + 2) i = 0 := by rw [up2_get, if_neg (by omega), up2_get, if_neg (by omega), up2_same]
      have g3 : (up2 (up2 (up2 (up2 I (r + 1) i (nI (oth n i))) (r + 2) i 0) (r + 3) i 0) (r + 5) i (nI i)) (r + 3) i = 0 := by rw [up2_get, if_neg (by omega), up2_same]
      have g4 : (up2 (up2 (up2 (up2 I (r + 1) i (nI (oth n i))) (r + 2) i 0) (r + 3) i 0) (r + 5) i (nI i)) (r + 5) i = nI i := up2_same _ _ _ _
      generalize up2 (up2 (up2 (up2 I (r + 1) i (nI (oth n i))) (r + 2) i 0) (r + 3) i 0) (r + 5) i (nI i) = I1 at f0 g1 g2 g3 g4
      unfold Net_startTable
      refine ⟨vin (by omega) (by omega), Net_clearTable_k (n := n) (q := q) (l := oth n i) (h := 0) ((f0 _ _ (by omega)).trans e0) ((f0 _ _ (by omega)).trans e1) g1 g3 (oth_lt n i) (Nat.two_pow_pos n) h8 h2 h4 (by omega) (fun I2 f1 ho hv hz => ?_)⟩
      rw [← vw_o] at hv hz
      rw [nx_nI (by omega)]
      have fa : ∀ x j, ¬ ((x = r + 1 ∨ x = r + 2 ∨ x = r + 3 ∨ x = r + 5) ∧ j = i) → ¬ ctP r i x j → I2 x j = I x j := fun x j h1 h2 => (f1 x j h2).trans (f0 x j h1)
      refine ih (i + 1) I2 _ (by omega) (f.tr ((f0.mono (fun x j hx => by unfold nP; omega)).tr (f1.mono ctP_n))) ⟨?_, ?_, ?_, fun j hj => ?_, fun k hk => ?_⟩ (fun w hw => ?_) (fun b j hn => ?_)
      · rw [fa _ _ (by omega) (by unfold ctP; omega)]; exact e0
      · rw [fa _ _ (by omega) (by unfold ctP; omega)]; exact e1
      · rw [fa _ _ (by omega) (by unfold ctP; omega)]; exact e2
      · rcases ho j with h9 | h9
        · rw [h9, f0 _ _ (by omega)]; exact e3 j hj
        · rw [h9]; exact byt0
      · by_cases e : k = i
        · subst e
          refine ⟨?_, ?_, ?_, hv, ?_, hz⟩
          · rw [f1 _ _ (by unfold ctP; omega)]; exact g1
          · rw [f1 _ _ (by unfold ctP; omega)]; exact g2
          · rw [f1 _ _ (by unfold ctP; omega)]; exact g3
          · rw [f1 _ _ (by unfold ctP; omega)]; exact g4
        · obtain ⟨p1, p2, p3, p4, p5, p6⟩ := e4 k (by omega)
          refine ⟨?_, ?_, ?_, ?_, ?_, fun h0 v hv => ?_⟩
          · rw [fa _ _ (by omega) (by unfold ctP; omega)]; exact p1
          · rw [fa _ _ (by omega) (by unfold ctP; omega)]; exact p2
          · rw [fa _ _ (by omega) (by unfold ctP; omega)]; exact p3
          · rw [fa _ _ (by omega) (by unfold ctP; omega)]; exact p4
          · rw [fa _ _ (by omega) (by unfold ctP; omega)]; exact p5
          · rw [fa _ _ (by omega) (by unfold ctP; omega)]; exact p6 h0 v hv
      · rw [up2_get]; split
        · rfl
        · exact ht w (by omega)
      · rw [up2_get, if_neg (by omega)]; exact hb b j hn
  exact ⟨n + 1, key n 0 I0 T0 (by omega) Fr.rf O (fun w hw => by omega) (fun _ _ _ => rfl)⟩
theorem Net_open_k {I : HI} {T : HR} {L : HL} {r n q : Nat} (h8 : n ≤ 8) (h2 : 2 ≤ q) (h4 : q ≤ 4) (hb : ∀ j, j < 8192 → byt (I (r + 7) j)) {Q : HI → HR → Prop} (h : ∀ I' T', Fr (nP r) I I' → CN I' r (aOpen n q) → (∀ w, w < n → T' (r + 6) w = none) → (∀ b j, ¬ (b = r + 6 ∧ j < n) → T' b j = T b j) → Q I' T') : Net_open I T L r (nI n) (nI q) Q := by
  have key : ∀ d i J, i + d = n → Fr (fun x j => x = r ∧ j ≤ 2) I J → J r 0 = nI n → J r 1 = nI q → J r 2 = nI (q ^ i) → Net_open_l17 T L r Q (d + 1) J (nI i) := by
    intro d
    induction d with
    | zero =>
      intro i J hi f e0 e1 e2
      have : i = n := by omega
      subst this
      rw [Net_open_l17, e0]
      refine it (nI_le (Nat.le_refl _) (by omega)) (Net_all_k h8 h2 h4 ⟨e0, e1, e2, fun j hj => ?_, fun k hk => by omega⟩ (fun I' T' f' N' t1 t2 => h I' T' ((f.mono (fun x j hx => by unfold nP; omega)).tr f') N' t1 t2))
      rw [f _ _ (by omega)]; exact hb j hj
    | succ d ih =>
      intro i J hi f e0 e1 e2
      rw [Net_open_l17, e0]
      refine ie (nI_ge (by omega) (by omega)) ?_
      rw [e2, e1, nM, ← Nat.pow_succ, nI_1]
      refine ih (i + 1) _ (by omega) (f.up ⟨rfl, by omega⟩) ?_ ?_ (up2_same _ _ _ _)
      · rw [up2_get, if_neg (by omega)]; exact e0
      · rw [up2_get, if_neg (by omega)]; exact e1
  refine ⟨n + 1, key n 0 _ (by omega) (((Fr.rf.up ⟨rfl, by omega⟩).up ⟨rfl, by omega⟩).up ⟨rfl, by omega⟩) ?_ ?_ ?_⟩
  · rw [up2_get, if_neg (by omega), up2_get, if_neg (by omega), up2_same]
  · rw [up2_get, if_neg (by omega), up2_same]
  · rw [up2_same, Nat.pow_zero]; rfl
/-- which halls there are -/
def hok (n q : Nat) : Prop := 1 ≤ n ∧ n ≤ 8 ∧ 2 ≤ q ∧ q ≤ 4 ∧ q ^ n ≤ 6561
theorem pow_b {n q : Nat} (h8 : n ≤ 8) (h4 : q ≤ 4) : q ^ n ≤ 65536 := Nat.le_trans (Nat.pow_le_pow_left h4 n) (Nat.le_trans (Nat.pow_le_pow_right (by decide) h8) (by decide))
theorem Net_fits_k {n q : Nat} (h1 : 1 ≤ n) (h8 : n ≤ 8) (h2 : 2 ≤ q) (h4 : q ≤ 4) {Q : Int32 → Prop} (hy : q ^ n ≤ 6561 → Q 1) (hn : ¬ q ^ n ≤ 6561 → Q 0) : Net_fits (nI n) (nI q) Q := by
  have key : ∀ d i, i + d = n → Net_fits_l27 (nI n) (nI q) Q (d + 1) (nI (q ^ i)) (nI i) := by
    intro d
    induction d with
    | zero =>
      intro i hi
      have : i = n := by omega
      subst this
      have := pow_b h8 h4
      rw [Net_fits_l27, show (6561 : Int32) = nI 6561 from rfl]
      refine it (nI_le (Nat.le_refl _) (by omega)) (ic (fun hc => ?_) (fun hc => ?_))
      · rw [nI_ltI (by omega) (by omega)] at hc; exact hn (by omega)
      · rw [nI_ltI (by omega) (by omega)] at hc; exact hy (by omega)
    | succ d ih =>
      intro i hi
      rw [Net_fits_l27]
      refine ie (nI_ge (by omega) (by omega)) ?_
      rw [nM, ← Nat.pow_succ, nI_1]
      exact ih (i + 1) (by omega)
  unfold Net_fits
  rw [nlit1, nlit8, show (2 : Int32) = nI 2 from rfl, show (4 : Int32) = nI 4 from rfl]
  exact ie (nI_nlt h1 (by omega)) (ie (nI_nlt h8 (by omega)) (ie (nI_nlt h2 (by omega)) (it (nI_le h4 (by omega)) ⟨n + 1, key n 0 (by omega)⟩)))
