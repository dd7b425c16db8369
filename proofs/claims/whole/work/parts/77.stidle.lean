/-! idle, both sides -/
def idm (a : AN) (r w m : Nat) : Nat := m &&& (msk (fun k => m.testBit k && chu a r w k (aq a)) (an a) ^^^ (2 ^ 32 - 1))
def idl (a : AN) (w : Nat) : Nat → Nat → Nat → Nat
  | 0, m, _ => m
  | d + 1, m, r => if m = 0 then m else idl a w d (idm a r w m) (r + 1)
theorem idm_lt {a : AN} {r w m : Nat} (h : m < 2 ^ 8) : idm a r w m < 2 ^ 8 := Nat.lt_of_le_of_lt Nat.and_le_left h
theorem idle_c {I : HI} {T F : HR} {L : HL} {own : Nat → Nat} {a : AN} {w : Nat} (W : WF a) (N : CN I 1 a) (C : CT I T F L own 1 a) (o56 : ∀ b, b < 56 → own b = 0) (hw : w < an a) {Q : Int32 → HI → Prop} {X : HI → Prop} : ∀ d m r J, r + d = aq a ^ an a → m < 2 ^ 8 → Fr (fun b _ => b = 21 ∨ b = 22 ∨ b = 25 ∨ own b = 3) I J → (∀ J', Fr (fun b _ => b = 21 ∨ b = 22 ∨ b = 25 ∨ own b = 3) I J' → Q (nI (idl a w d m r)) J') → H_idle_l17 T F L (nI w) Q X (d + 1) J (nI m) (nI r) := by
  have n8 := W.2.1
  have r5 := W.2.2.2.2.1
  have nJ : ∀ {J}, Fr (fun b _ => b = 21 ∨ b = 22 ∨ b = 25 ∨ own b = 3) I J → CN J 1 a := fun f => N.eq (fun j i hji => f _ _ (by have := o56 (1 + j) (by omega); omega))
  have cJ : ∀ {J}, Fr (fun b _ => b = 21 ∨ b = 22 ∨ b = 25 ∨ own b = 3) I J → CT J T F L own 1 a := fun f => C.fr (fun b i hb => f _ _ (fun q => by rcases q with q | q | q | q; (rw [q, o56 21 (by omega)] at hb; omega); (rw [q, o56 22 (by omega)] at hb; omega); (rw [q, o56 25 (by omega)] at hb; omega); omega)) (fun _ _ => rfl) n8 Ext.rf
  intro d
  induction d with
  | zero =>
    intro m r J hd hm f hQ
    rw [H_idle_l17, (nJ f).2.2.1]
    exact it (nI_le (by omega) (by omega)) (hQ J f)
  | succ d ih =>
    intro m r J hd hm f hQ
    rw [H_idle_l17, (nJ f).2.2.1]
    simp only [nI_1]
    refine ie (nI_ge (by omega) (by omega)) (ic (fun h0 => ?_) (fun h0 => ?_))
    · rw [nlit0, nI_eq (by omega) (by omega)] at h0
      have g := hQ J f
      rw [idl, if_pos h0] at g
      exact g
    · rw [nlit0, nI_eq (by omega) (by omega)] at h0
      refine Sc_play_k W (nJ f) (cJ f) (o56 21 (by omega)) (o56 22 (by omega)) (fun j hj => ⟨by omega, by omega⟩) (by omega) (fun I1 f1 hh hg => ?_)
      have f1' : Fr (fun b _ => b = 21 ∨ b = 22 ∨ b = 25 ∨ own b = 3) I I1 := f.tr (f1.mono (fun b i hb => by omega))
      refine Sc_matter_k W (nJ f1') (cJ f1') o56 hh hg hw (by omega) (fun I2 f2 => ?_)
      rw [nAndn]
      refine ih (idm a r w m) (r + 1) I2 (by omega) (idm_lt hm) (f1'.tr (f2.mono (fun b i hb => by omega))) (fun J' f' => ?_)
      have g := hQ J' f'
      rw [idl, if_neg h0] at g
      exact g
/-- the reference clears bit by bit -/
def mj (a : AN) (r w m : Nat) : Nat → Nat
  | 0 => m
  | k + 1 => if (mj a r w m k).testBit k && chu a r w k (aq a) then mj a r w m k &&& (2 ^ k ^^^ (2 ^ 32 - 1)) else mj a r w m k
theorem mj_lt {a : AN} {r w m : Nat} (h : m < 2 ^ 8) : ∀ k, mj a r w m k < 2 ^ 8
  | 0 => h
  | k + 1 => by
    have := mj_lt (a := a) (r := r) (w := w) h k
    unfold mj
    split
    · exact Nat.lt_of_le_of_lt Nat.and_le_left this
    · exact this
theorem mj_bit {a : AN} {r w m : Nat} (h : m < 2 ^ 8) (i : Nat) : ∀ k, (mj a r w m k).testBit i = (m.testBit i && !(decide (i < k) && chu a r w i (aq a)))
  | 0 => by simp [mj]
  | k + 1 => by
    have ih := mj_bit (a := a) (r := r) (w := w) h i k
    have ik := mj_bit (a := a) (r := r) (w := w) h k k
    have hl := mj_lt (a := a) (r := r) (w := w) h k
    unfold mj
    by_cases e : i = k
    · subst e
      simp only [Nat.lt_irrefl, decide_false, Bool.false_and, Bool.not_false, Bool.and_true] at ih
      rw [ih]
      cases hb : m.testBit i <;> cases hc : chu a r w i (aq a)
      · simp [ih, hb]
      · simp [ih, hb]
      · simp [ih, hb]
      · simp only [Bool.and_self, if_true, andn_bit hl, ih, hb, Nat.testBit_two_pow_self]
        simp
    · have e2 : decide (i < k + 1) = decide (i < k) := by
        apply decide_eq_decide.mpr; omega
      rw [e2, ← ih]
      split
      · rw [andn_bit hl, Nat.testBit_two_pow]
        simp [show ¬ k = i by omega]
      · rfl
theorem mj_idm {a : AN} {r w m : Nat} (h : m < 2 ^ an a) (h8 : an a ≤ 8) : mj a r w m (an a) = idm a r w m := by
  have hm : m < 2 ^ 8 := Nat.lt_of_lt_of_le h (Nat.pow_le_pow_right (by decide) h8)
  apply Nat.eq_of_testBit_eq
  intro i
  unfold idm
  rw [mj_bit hm, andn_bit hm, msk_bit]
  by_cases hi : i < an a
  · rw [decide_eq_true hi]; cases m.testBit i <;> cases chu a r w i (aq a) <;> rfl
  · rw [Nat.testBit_lt_two_pow (Nat.lt_of_lt_of_le h (Nat.pow_le_pow_right (by decide) (by omega)))]; rfl
theorem idl_2 {a : AN} {w : Nat} (W : WF a) (hw : w < an a) (hk : akd a w = 2) : ∀ d m r, m < 2 ^ 8 → idl a w d m r = m
  | 0, _, _, _ => rfl
  | d + 1, m, r, hm => by
    have hc : ∀ k c, chu a r w k c = false := by
      intro k c
      induction c with
      | zero => rfl
      | succ c ih =>
        rw [chu, ih, Bool.false_or]
        unfold chc
        rw [gs_fix W hw]
        unfold gues
        rw [if_pos hk, if_pos hk]
        simp
    have e : idm a r w m = m := by
      apply Nat.eq_of_testBit_eq
      intro i
      unfold idm
      rw [andn_bit hm, msk_bit, hc]
      simp
    rw [idl, e, idl_2 W hw hk d m (r + 1) hm]
    split <;> rfl
theorem idle_86 {J0 : HI} {a : AN} {r w k M : Nat} (W : WF a) (R : RepM J0 a) (h17 : ∀ j, j < an a → J0 17 j = nI (hat a r j)) (h18 : ∀ j, j < an a → J0 18 j = nI (gs a (hat a r) j)) (hw : w < an a) (hk : k < an a) {x3 : Int32} {K23 K53 : HI → Int32 → Int32 → Prop} {Q : Int32 → HI → Prop} (hK : ∀ J, Fr (fun b _ => b = 17 ∨ b = 19) J0 J → (∀ j, j < an a → J 17 j = nI (hat a r j)) → K53 J (nI (if chu a r w k (aq a) then M &&& (2 ^ k ^^^ (2 ^ 32 - 1)) else M)) (nI (k + 1))) : ∃ nn, M_idle_l86 (nI w) x3 (nI k) (nI (hat a r k)) K23 K53 Q nn J0 (nI M) 0 := by
  have n8 := W.2.1
  have q4 := W.2.2.2.1
  have gl := gs_le W (fun j _ => hat_lt W r j)
  have key : ∀ d c J, c + d = aq a → Fr (fun b _ => b = 17 ∨ b = 19) J0 J → (∀ j, j < an a → j ≠ k → J 17 j = nI (hat a r j)) → M_idle_l86 (nI w) x3 (nI k) (nI (hat a r k)) K23 K53 Q (d + 1) J (nI (if chu a r w k c then M &&& (2 ^ k ^^^ (2 ^ 32 - 1)) else M)) (nI c) := by
    intro d
    induction d with
    | zero =>
      intro c J hd f hj
      have : c = aq a := by omega
      subst this
      rw [M_idle_l86, show J 0 2 = nI (aq a) from (f _ _ (by omega)).trans R.1.2.1, nx_nI (by omega)]
      simp only [nI_1]
      refine it (nI_le (Nat.le_refl _) (by omega)) ⟨vin (by omega) (by omega), hK _ (f.up (Or.inl rfl)) (fun j hjn => ?_)⟩
      rw [up2_get]
      by_cases e : j = k
      · rw [if_pos ⟨rfl, e⟩, e]
      · rw [if_neg (by omega)]; exact hj j hjn e
    | succ d ih =>
      intro c J hd f hj
      rw [M_idle_l86, show J 0 2 = nI (aq a) from (f _ _ (by omega)).trans R.1.2.1, nx_nI (by omega)]
      simp only [nI_1]
      refine ie (nI_ge (by omega) (by omega)) ⟨vin (by omega) (by omega), ?_⟩
      have fJ : Fr (fun b _ => b = 17 ∨ b = 19) J0 (up2 J 17 k (nI c)) := f.up (Or.inl rfl)
      have RJ := R.eq (I' := up2 J 17 k (nI c)) (fun b i hb => fJ _ _ (by omega))
      have hJ : ∀ j, j < an a → (up2 J 17 k (nI c)) 17 j = nI (upn (hat a r) k c j) := fun j hjn => by
        rw [up2_get]
        unfold upn
        by_cases ej : j = k
        · rw [if_pos ⟨rfl, ej⟩, if_pos ej]
        · rw [if_neg (by omega), if_neg ej]; exact hj j hjn ej
      have hG : ∀ j, j < an a → (up2 J 17 k (nI c)) 18 j = nI (gs a (hat a r) j) := fun j hjn => (fJ _ _ (by omega)).trans (h18 j hjn)
      refine M_guesses_k W ⟨RJ, hJ, fun j hjn _ => hG j hjn⟩ hw (upn_hat W (by omega)) (fun j hjn _ => gl j hjn) (fun I9 f9 => ⟨vin (by omega) (by omega), ?_⟩)
      rw [nx_nI (by omega), show I9 18 w = nI (gs a (hat a r) w) from (f9 _ _ (by omega)).trans (hG w hw), nShl1 k (by omega), nAndn]
      have g1 := gues_le (g := gs a (hat a r)) W hw (upn_hat (r := r) (k := k) (c := c) W (by omega)) (fun j hjn _ => gl j hjn)
      have g2 := gl w hw
      have ih := ih (c + 1) I9 (by omega) (fJ.tr (f9.mono (fun b i hb => Or.inr hb))) (fun j hjn ej => by rw [f9 _ _ (by omega), hJ j hjn]; unfold upn; rw [if_neg ej])
      rw [chu] at ih
      refine ic (fun hc => ?_) (fun hc => ?_)
      · rw [nI_eq (by omega) (by omega)] at hc
        rw [show chc a r w k c = false by unfold chc; simp [hc], Bool.or_false] at ih
        exact ih
      · rw [nI_eq (by omega) (by omega)] at hc
        rw [show chc a r w k c = true by unfold chc; simp [hc], Bool.or_true, if_pos rfl] at ih
        cases chu a r w k c with
        | false => exact ih
        | true => rw [if_pos rfl, Nat.and_assoc, Nat.and_self]; exact ih
  exact ⟨aq a + 1, key (aq a) 0 J0 (by omega) Fr.rf (fun j hjn _ => h17 j hjn)⟩
theorem idle_53 {J0 : HI} {a : AN} {r w m : Nat} (W : WF a) (R : RepM J0 a) (h17 : ∀ j, j < an a → J0 17 j = nI (hat a r j)) (h18 : ∀ j, j < an a → J0 18 j = nI (gs a (hat a r) j)) (hw : w < an a) (hm : m < 2 ^ an a) {K23 : HI → Int32 → Int32 → Prop} {Q : Int32 → HI → Prop} (hK : ∀ J, Fr (fun b _ => b = 17 ∨ b = 19) J0 J → K23 J (nI (idm a r w m)) (nI (r + 1))) : ∃ nn, M_idle_l53 (nI w) (nI r) K23 Q nn J0 (nI m) 0 := by
  have n8 := W.2.1
  have hm8 : m < 2 ^ 8 := Nat.lt_of_lt_of_le hm (p2le n8)
  rw [← mj_idm hm n8] at hK
  have key : ∀ d k J, k + d = an a → Fr (fun b _ => b = 17 ∨ b = 19) J0 J → (∀ j, j < an a → J 17 j = nI (hat a r j)) → M_idle_l53 (nI w) (nI r) K23 Q (d + 1) J (nI (mj a r w m k)) (nI k) := by
    intro d
    induction d with
    | zero =>
      intro k J hd f hj
      have : k = an a := by omega
      subst this
      rw [M_idle_l53, show J 0 1 = nI (an a) from (f _ _ (by omega)).trans R.1.1]
      simp only [nI_1]
      exact it (nI_le (Nat.le_refl _) (by omega)) (hK J f)
    | succ d ih =>
      intro k J hd f hj
      have hl := mj_lt (a := a) (r := r) (w := w) hm8 k
      rw [M_idle_l53, show J 0 1 = nI (an a) from (f _ _ (by omega)).trans R.1.1, nx_nI (by omega), hj k (by omega)]
      simp only [nI_1]
      have ih := fun J => ih (k + 1) J (by omega)
      rw [mj] at ih
      refine ie (nI_ge (by omega) (by omega)) (ic (fun hb => ?_) (fun hb => ?_))
      · rw [nBit0 (by omega) (by omega)] at hb
        rw [hb, Bool.false_and, if_neg (by decide)] at ih
        exact ih J f hj
      · rw [nBit0 (by omega) (by omega)] at hb
        have hb : (mj a r w m k).testBit k = true := by cases e : (mj a r w m k).testBit k; exact absurd e hb; rfl
        rw [hb, Bool.true_and] at ih
        exact ⟨vin (by omega) (by omega), idle_86 W (R.eq (fun b i hb => f _ _ (by omega))) hj (fun j hjn => (f _ _ (by omega)).trans (h18 j hjn)) hw (by omega) (fun J2 f2 hj2 => ih J2 (f.tr f2) hj2)⟩
  exact ⟨an a + 1, key (an a) 0 J0 (by omega) Fr.rf h17⟩
theorem idl_pow {a : AN} {r w m : Nat} (h : m < 2 ^ an a) : idm a r w m < 2 ^ an a := Nat.lt_of_le_of_lt Nat.and_le_left h
theorem idle_23 {I4 : HI} {a : AN} {w : Nat} (W : WF a) (R : RepM I4 a) (hd : ∀ r, r < aq a ^ an a → done I4 a r) (hw : w < an a) {Q : Int32 → HI → Prop} : ∀ d m r J, r + d = aq a ^ an a → m < 2 ^ an a → Fr (fun b _ => b = 17 ∨ b = 18 ∨ b = 19) I4 J → (∀ J', Fr (fun b _ => b = 17 ∨ b = 18 ∨ b = 19) I4 J' → Q (nI (idl a w d m r)) J') → M_idle_l23 (nI w) Q (d + 1) J (nI m) (nI r) := by
  have n8 := W.2.1
  have r5 := W.2.2.2.2.1
  have k2 := W.kd hw
  have h256 := p2le n8
  intro d
  induction d with
  | zero =>
    intro m r J hd' hm f hQ
    rw [M_idle_l23, show J 0 3 = nI (aq a ^ an a) from (f _ _ (by omega)).trans R.2.1]
    exact it (nI_le (by omega) (by omega)) (hQ J f)
  | succ d ih =>
    intro m r J hd' hm f hQ
    rw [M_idle_l23, show J 0 3 = nI (aq a ^ an a) from (f _ _ (by omega)).trans R.2.1, nx_nI (by omega), show J 4 w = nI (akd a w) from (f _ _ (by omega)).trans (R.2.2 w hw).1]
    have hQJ := hQ J f
    refine ie (nI_ge (by omega) (by omega)) (ic (fun h0 => ?_) (fun h0 => ⟨vin (by omega) (by omega), ic (fun h2 => ?_) (fun h2 => ?_)⟩))
    · rw [nlit0, nI_eq (by omega) (by omega)] at h0
      rw [idl, if_pos h0] at hQJ
      exact hQJ
    · have h2 : akd a w = 2 := (nI_eq (b := 2) (by omega) (by omega)).mp h2
      rw [idl_2 W hw h2 _ m r (by omega)] at hQJ
      exact hQJ
    · rw [nlit0, nI_eq (by omega) (by omega)] at h0
      have RJ := R.eq (I' := J) (fun b i hb => f _ _ (by omega))
      have dJ : done J a r := by
        obtain ⟨d1, d2, d3⟩ := hd r (by omega)
        exact ⟨(f _ _ (by omega)).trans d1, (f _ _ (by omega)).trans d2, fun k hk => (f _ _ (by omega)).trans (d3 k hk)⟩
      refine M_laysOut_k W RJ (by omega) dJ (fun J2 f2 g17 g18 => idle_53 W (RJ.eq (fun b i hb => f2 _ _ (by omega))) g17 g18 hw hm (fun J3 f3 => ?_))
      refine ih (idm a r w m) (r + 1) J3 (by omega) (idl_pow hm) ((f.tr (f2.mono (fun b i hb => by omega))).tr (f3.mono (fun b i hb => by omega))) (fun J' f' => ?_)
      have g := hQ J' f'
      rw [idl, if_neg h0] at g
      exact g
theorem st_idle {ro : Nat} {x1 : Int32} {I : HI} {J : HJ} {T F : HR} {L : HL} {IM : HI} {JM : HJ} (hI : Inv ro (I, J, T, F, L) IM JM) : St_idle x1 I J T F L ro IM JM (Inv ro) := by
  obtain ⟨own, h, a, B⟩ := Inv_el hI
  have B0 := B
  obtain ⟨W, R, N, C, b5, b6, b7⟩ := B
  have hro := b7.1.2.2.2.1
  have o56 := b7.1.1
  have n8 := W.2.1
  have h256 := p2le n8
  unfold St_idle L_idle H_idle M_idle
  rcases wcase x1 (an a) (by omega) with ⟨w, hw, rfl⟩ | hx
  · have hl := (W.2.2.2.2.2 w hw).1
    refine H_need_y N.1 n8 hw ⟨vin (by omega) (by omega), aq a ^ an a + 1, ?_⟩
    rw [nx_nI (by omega), show I 2 w = nI (alk a w) from N.2.2.2.1 w hw]
    refine idle_c W N C o56 hw (aq a ^ an a) (alk a w) 0 I (by omega) (by omega) Fr.rf (fun I1 f1 => ⟨hro, ?_⟩)
    refine M_isWearer_y R.1.1 n8 hw (ie (by decide) (M_all_s W R b5 (fun I4 fm R4 h0 hw4 hd => ⟨vin (by omega) (by omega), aq a ^ an a + 1, ?_⟩)))
    rw [show I4 2 w = nI (alk a w) from R4.1.2.2.1 w hw]
    refine idle_23 W R4 hd hw (aq a ^ an a) (alk a w) 0 I4 (by omega) hl Fr.rf (fun J' f' => ?_)
    exact fin_ok2 (B0.scr f1 (fm.tr (f'.mono (fun b i hb => by omega))) (hw4.eq (fun b i hb => f' _ _ (by omega)))) ((f' _ _ (by omega)).trans h0) rfl
  · exact H_need_n N.1 hx ⟨hro, M_isWearer_n R.1.1 hx (it rfl (fin_no B0 (Fr01 IM) (up00' _)))⟩
