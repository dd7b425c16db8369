/-! idle -/
theorem M_laysOut_k {IM : HI} {a : AN} {r : Nat} (W : WF a) (R : RepM IM a) (hr : r < aq a ^ an a) (hd : done IM a r) {Q : HI → Prop} (hq : ∀ J, Fr (fun b _ => b = 17 ∨ b = 18) IM J → (∀ k, k < an a → J 17 k = nI (hat a r k)) → (∀ k, k < an a → J 18 k = nI (gs a (hat a r) k)) → Q J) : M_laysOut IM (nI r) Q := by
  have n8 := W.2.1
  have r5 := W.2.2.2.2.1
  unfold M_laysOut
  refine M_wears_k R.1.1 R.1.2.1 n8 W.2.2.1 W.2.2.2.1 (by omega) (fun I2 f2 h17 => ⟨an a + 1, ?_⟩)
  have h17 : ∀ w, w < an a → I2 17 w = nI (hat a r w) := h17
  have key : ∀ d j J, j + d = an a → Fr (fun b _ => b = 18) I2 J → (∀ k, k < j → J 18 k = nI (gs a (hat a r) k)) → M_laysOut_l7 (nI r) Q (d + 1) J (nI j) := by
    intro d
    induction d with
    | zero =>
      intro j J hj f hs
      rw [M_laysOut_l7, show J 0 1 = nI (an a) from (f _ _ (by omega)).trans ((f2 _ _ (by omega)).trans R.1.1)]
      exact it (nI_le (by omega) (by omega)) (hq J ((f2.mono (fun b i hb => Or.inl hb)).tr (f.mono (fun b i hb => Or.inr hb))) (fun k hk => (f _ _ (by omega)).trans (h17 k hk)) (fun k hk => hs k (by omega)))
    | succ d ih =>
      intro j J hj f hs
      have hj' : j < an a := by omega
      rw [M_laysOut_l7, show J 0 1 = nI (an a) from (f _ _ (by omega)).trans ((f2 _ _ (by omega)).trans R.1.1), show (8 : Int32) = nI 8 from rfl, nM, nI_add, nx_nI (by omega), nx_nI (by omega), f _ _ (by omega), show I2 22 (8 * r + j) = nI (gs a (hat a r) j) from (f2 _ _ (by omega)).trans (hd.2.2 j hj')]
      simp only [nI_1]
      refine ie (nI_ge (by omega) (by omega)) ⟨vin (by omega) (by omega), vin (by omega) (by omega), ih (j + 1) _ (by omega) (f.up rfl) (fun k hk => ?_)⟩
      rw [up2_get]
      by_cases e : k = j
      · rw [if_pos ⟨rfl, e⟩, e]
      · rw [if_neg (by omega)]; exact hs k (by omega)
  exact key (an a) 0 I2 (by omega) Fr.rf (fun k hk => by omega)
/-- whether another hat on k's head changes w's guess, among the colours below c -/
def chc (a : AN) (r w k c : Nat) : Bool := decide (gues a (upn (hat a r) k c) (gs a (hat a r)) w ≠ gs a (hat a r) w)
def chu (a : AN) (r w k : Nat) : Nat → Bool
  | 0 => false
  | c + 1 => chu a r w k c || chc a r w k c
theorem chu_mono {a : AN} {r w k c : Nat} (h : chu a r w k c = true) : ∀ d, chu a r w k (c + d) = true
  | 0 => h
  | d + 1 => by
    show (chu a r w k (c + d) || chc a r w k (c + d)) = true
    rw [chu_mono h d]; rfl
theorem upn_hat {a : AN} (W : WF a) {r k c : Nat} (hc : c < aq a) : ∀ j, j < an a → upn (hat a r) k c j < aq a := fun j _ => by
  unfold upn
  split
  · exact hc
  · exact hat_lt W r j
theorem Sc_chg_k {I : HI} {T F : HR} {L : HL} {own : Nat → Nat} {a : AN} {r w k : Nat} (W : WF a) (N : CN I 1 a) (C : CT I T F L own 1 a) (o56 : ∀ b, b < 56 → own b = 0) (hh : ∀ j, j < an a → I 21 j = nI (hat a r j)) (hg : ∀ j, j < an a → I 22 j = nI (gs a (hat a r) j)) (hw : w < an a) (hk : k < an a) {Q : Int32 → HI → Prop} (hQ : ∀ I', Fr (fun b _ => b = 21 ∨ own b = 3) I I' → (∀ j, j < an a → I' 21 j = nI (hat a r j)) → Q (b01 (chu a r w k (aq a))) I') : Sc_changesGuess I T F L 20 1 (nI w) (nI k) Q := by
  have n8 := W.2.1
  have q2 := W.2.2.1
  have q4 := W.2.2.2.1
  have gl := gs_le W (fun j _ => hat_lt W r j)
  unfold Sc_changesGuess
  refine ⟨vin (by omega) (by omega), aq a + 1, ?_⟩
  rw [nx_nI (by omega), show I (20 + 1) k = nI (hat a r k) from hh k hk]
  have fin : ∀ J b, Fr (fun b _ => b = 21 ∨ own b = 3) I J → (∀ j, j < an a → j ≠ k → J 21 j = nI (hat a r j)) → b = chu a r w k (aq a) → Sc_changesGuess_b64 J T F L 20 1 (nI k) (nI (hat a r k)) (b01 b) Q := by
    intro J b f hj e
    unfold Sc_changesGuess_b64
    rw [nx_nI (by omega)]
    refine ⟨vin (by omega) (by omega), zb_b01 _, ?_⟩
    rw [e]
    refine hQ _ (f.up (Or.inl rfl)) (fun j hjn => ?_)
    rw [up2_get]
    by_cases ej : j = k
    · rw [if_pos ⟨rfl, ej⟩, ej]
    · rw [if_neg (by omega)]; exact hj j hjn ej
  have key : ∀ d c J, c + d = aq a → Fr (fun b _ => b = 21 ∨ own b = 3) I J → (∀ j, j < an a → j ≠ k → J 21 j = nI (hat a r j)) → Sc_changesGuess_l14 T F L 20 1 (nI w) (nI k) (nI (hat a r k)) Q (d + 1) J (b01 (chu a r w k c)) (nI c) := by
    intro d
    induction d with
    | zero =>
      intro c J hd f hj
      have : c = aq a := by omega
      subst this
      rw [Sc_changesGuess_l14, show J 1 1 = nI (aq a) from (f _ _ (by have := o56 1 (by omega); omega)).trans N.2.1]
      exact it (nI_le (Nat.le_refl _) (by omega)) (fin J _ f hj rfl)
    | succ d ih =>
      intro c J hd f hj
      rw [Sc_changesGuess_l14, show J 1 1 = nI (aq a) from (f _ _ (by have := o56 1 (by omega); omega)).trans N.2.1]
      refine ie (nI_ge (by omega) (by omega)) ?_
      cases e : chu a r w k c with
      | true => exact ie (by decide) (fin J true f hj (by have := chu_mono e (d + 1); rw [hd] at this; exact this.symm))
      | false =>
        refine it rfl ?_
        rw [nx_nI (by omega)]
        refine ⟨vin (by omega) (by omega), ?_⟩
        have fJ : Fr (fun b _ => b = 21 ∨ own b = 3) I (up2 J (20 + 1) k (nI c)) := f.up (Or.inl rfl)
        have NJ : CN (up2 J (20 + 1) k (nI c)) 1 a := N.eq (fun j i hji => fJ _ _ (by have := o56 (1 + j) (by omega); omega))
        have CJ : CT (up2 J (20 + 1) k (nI c)) T F L own 1 a := C.fr (fun b i hb => fJ _ _ (fun q => by rcases q with q | q; (rw [q, o56 21 (by omega)] at hb; omega); omega)) (fun _ _ => rfl) n8 Ext.rf
        have h22 : ∀ j, j < an a → (up2 J (20 + 1) k (nI c)) 22 j = nI (gs a (hat a r) j) := fun j hjn => (fJ _ _ (by have := o56 22 (by omega); omega)).trans (hg j hjn)
        have h21 : ∀ j, j < an a → (up2 J (20 + 1) k (nI c)) 21 j = nI (upn (hat a r) k c j) := fun j hjn => by
          rw [up2_get]
          unfold upn
          by_cases ej : j = k
          · rw [if_pos ⟨rfl, ej⟩, if_pos ej]
          · rw [if_neg (by omega), if_neg ej]; exact hj j hjn ej
        refine Sc_guessOf_k W hw ⟨NJ, h21, fun j hjn _ => h22 j hjn⟩ CJ ⟨by rw [o56 21 (by omega)]; decide, by rw [o56 22 (by omega)]; decide⟩ (upn_hat W (by omega)) (fun j hjn _ => gl j hjn) (fun I2 f2 => ?_)
        have e22 : I2 (20 + 2) w = nI (gs a (hat a r) w) := (f2 22 w (by have := o56 22 (by omega); omega)).trans (h22 w hw)
        have f2' : Fr (fun b _ => b = 21 ∨ own b = 3) I I2 := fJ.tr (f2.mono (fun b i hb => Or.inr hb))
        have hj2 : ∀ j, j < an a → j ≠ k → I2 21 j = nI (hat a r j) := fun j hjn ej => by
          rw [f2 _ _ (by have := o56 21 (by omega); omega), h21 j hjn]; unfold upn; rw [if_neg ej]
        rw [nx_nI (by omega), e22]
        simp only [nI_1]
        have g1 := gues_le (g := gs a (hat a r)) W hw (upn_hat (r := r) (k := k) (c := c) W (by omega)) (fun j hjn _ => gl j hjn)
        have g2 := gl w hw
        have ih := ih (c + 1) I2 (by omega) f2' hj2
        rw [chu, e, Bool.false_or] at ih
        refine ⟨vin (by omega) (by omega), ic (fun hc => ?_) (fun hc => ?_)⟩
        · rw [nI_eq (by omega) (by omega)] at hc
          rw [show chc a r w k c = false by unfold chc; simp [hc]] at ih
          exact ih
        · rw [nI_eq (by omega) (by omega)] at hc
          rw [show chc a r w k c = true by unfold chc; simp [hc]] at ih
          exact ih
  exact key (aq a) 0 I (by omega) Fr.rf (fun j hjn _ => hh j hjn)
theorem Sc_matter_k {I : HI} {T F : HR} {L : HL} {own : Nat → Nat} {a : AN} {r w m : Nat} (W : WF a) (N : CN I 1 a) (C : CT I T F L own 1 a) (o56 : ∀ b, b < 56 → own b = 0) (hh : ∀ j, j < an a → I 21 j = nI (hat a r j)) (hg : ∀ j, j < an a → I 22 j = nI (gs a (hat a r) j)) (hw : w < an a) (hm : m < 2 ^ 31) {Q : Int32 → HI → Prop} (hQ : ∀ I', Fr (fun b _ => b = 21 ∨ own b = 3) I I' → Q (nI (msk (fun k => m.testBit k && chu a r w k (aq a)) (an a))) I') : Sc_looksThatMatter I T F L 20 1 (nI w) (nI m) Q := by
  have n8 := W.2.1
  have key : ∀ d j J, j + d = an a → Fr (fun b _ => b = 21 ∨ own b = 3) I J → (∀ j, j < an a → J 21 j = nI (hat a r j)) → Sc_looksThatMatter_l6 T F L 20 1 (nI w) (nI m) Q (d + 1) J (nI (msk (fun k => m.testBit k && chu a r w k (aq a)) j)) (nI j) := by
    intro d
    induction d with
    | zero =>
      intro j J hd f hj
      have : j = an a := by omega
      subst this
      rw [Sc_looksThatMatter_l6, show J 1 0 = nI (an a) from (f _ _ (by have := o56 1 (by omega); omega)).trans N.1]
      exact it (nI_le (Nat.le_refl _) (by omega)) (hQ J f)
    | succ d ih =>
      intro j J hd f hj
      rw [Sc_looksThatMatter_l6, show J 1 0 = nI (an a) from (f _ _ (by have := o56 1 (by omega); omega)).trans N.1]
      simp only [nI_1]
      have NJ : CN J 1 a := N.eq (fun j i hji => f _ _ (by have := o56 (1 + j) (by omega); omega))
      have CJ : CT J T F L own 1 a := C.fr (fun b i hb => f _ _ (fun q => by rcases q with q | q; (rw [q, o56 21 (by omega)] at hb; omega); omega)) (fun _ _ => rfl) n8 Ext.rf
      have h22 : ∀ j, j < an a → J 22 j = nI (gs a (hat a r) j) := fun j hjn => (f _ _ (by have := o56 22 (by omega); omega)).trans (hg j hjn)
      refine ie (nI_ge (by omega) (by omega)) (ic (fun hb => ?_) (fun hb => ?_))
      · rw [nBit1 hm (by omega)] at hb
        refine Sc_chg_k W NJ CJ o56 hj h22 hw (by omega) (fun J2 f2 hj2 => ?_)
        have ih := ih (j + 1) J2 (by omega) (f.tr f2) hj2
        rw [msk_succ] at ih
        cases e : chu a r w j (aq a) with
        | false => rw [if_neg (by simp [e])] at ih; exact it rfl ih
        | true =>
          rw [if_pos (by simp [e, hb])] at ih
          refine ie (by decide) ?_
          rw [nShl1 j (by omega), nOr]; exact ih
      · rw [nBit1 hm (by omega)] at hb
        have ih := ih (j + 1) J (by omega) f hj
        rw [msk_succ, if_neg (by simp [hb])] at ih
        exact ih
  exact ⟨an a + 1, key (an a) 0 I (by omega) Fr.rf hh⟩
theorem nAndn (m z : Nat) : nI m &&& (nI z ^^^ (-1)) = nI (m &&& (z ^^^ (2 ^ 32 - 1))) := by
  rw [show (-1 : Int32) = nI (2 ^ 32 - 1) from rfl, nXor, nAnd]
theorem andn_bit {m z i : Nat} (hm : m < 2 ^ 8) : (m &&& (z ^^^ (2 ^ 32 - 1))).testBit i = (m.testBit i && !z.testBit i) := by
  rw [Nat.testBit_and, Nat.testBit_xor, Nat.testBit_two_pow_sub_one]
  by_cases h : i < 32
  · rw [decide_eq_true h]; cases m.testBit i <;> cases z.testBit i <;> rfl
  · rw [Nat.testBit_lt_two_pow (Nat.lt_of_lt_of_le hm (Nat.pow_le_pow_right (by decide) (by omega)))]; rfl
