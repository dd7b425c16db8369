/-! tables settled for all: search, sums, cover -/
theorem upn_2 {α : Type} (f : Nat → α) (w : Nat) (x y : α) : upn (upn f w x) w y = upn f w y := by
  funext k; unfold upn; split <;> rfl
theorem aTab_2 (b : AN) (w : Nat) (s t : Nat → Nat) : aTab (aTab b w s) w t = aTab b w t := by
  show ((an b, aq b, alk b, ard b, upn (upn (akd b) w 0) w 0, upn (upn (atb b) w s) w t, acd b) : AN) = (an b, aq b, alk b, ard b, upn (akd b) w 0, upn (atb b) w t, acd b)
  rw [upn_2, upn_2]
def aAll (a : AN) (ts : Nat → Nat → Nat) (i : Nat) : AN := (an a, aq a, alk a, ard a, fun k => if k < i then 0 else akd a k, fun k => if k < i then ts k else atb a k, acd a)
theorem aAll_0 (a : AN) (ts : Nat → Nat → Nat) : aAll a ts 0 = a := rfl
theorem aAll_s (a : AN) (ts : Nat → Nat → Nat) (i : Nat) : aTab (aAll a ts i) i (ts i) = aAll a ts (i + 1) := by
  show ((an a, aq a, alk a, ard a, upn (fun k => if k < i then 0 else akd a k) i 0, upn (fun k => if k < i then ts k else atb a k) i (ts i), acd a) : AN) = (an a, aq a, alk a, ard a, fun k => if k < i + 1 then 0 else akd a k, fun k => if k < i + 1 then ts k else atb a k, acd a)
  have e1 : upn (fun k => if k < i then 0 else akd a k) i 0 = fun k => if k < i + 1 then 0 else akd a k := by
    funext k
    unfold upn
    by_cases h : k = i
    · rw [if_pos h, if_pos (by omega)]
    · rw [if_neg h]
      dsimp only
      by_cases h2 : k < i
      · rw [if_pos h2, if_pos (by omega)]
      · rw [if_neg h2, if_neg (by omega)]
  have e2 : upn (fun k => if k < i then ts k else atb a k) i (ts i) = fun k => if k < i + 1 then ts k else atb a k := by
    funext k
    unfold upn
    by_cases h : k = i
    · rw [if_pos h, if_pos (by omega), h]
    · rw [if_neg h]
      dsimp only
      by_cases h2 : k < i
      · rw [if_pos h2, if_pos (by omega)]
      · rw [if_neg h2, if_neg (by omega)]
  rw [e1, e2]
theorem aAll_WF {a : AN} {ts : Nat → Nat → Nat} (W : WF a) (hv : ∀ w, w < an a → avw a w ≤ 1024) (ht : ∀ w, w < an a → ∀ v, v < avw a w → ts w v ≤ aq a) : ∀ i, i ≤ an a → WF (aAll a ts i)
  | 0, _ => W
  | i + 1, hi => by
    rw [← aAll_s]
    exact aTab_WF (aAll_WF W hv ht i (by omega)) (hv i (by omega)) (ht i (by omega))
theorem setGuess_k {I : HI} {r w v g : Nat} (hw : w < 8) (hv : v < 1024) (hg : g < 100) {Q : HI → Prop} (h : Q (up2 I (r + 7) (1024 * w + v) (nI g))) : Net_setGuess I r (nI w) (nI v) (nI g) Q := by
  unfold Net_setGuess
  rw [nlit1024, nM, nI_add, Nat.mul_comm w, nx_nI (by omega), (byt_k g hg).2]
  exact ⟨vin (by omega) (by omega), h⟩
theorem startTable_k {I : HI} {T F : HR} {L : HL} {own : Nat → Nat} {b : AN} {w : Nat} (W : WF b) (N : CN I 1 b) (C : CT I T F L own 1 b) (o56 : ∀ x, x < 56 → own x = 0) (hw : w < an b) (hv : avw b w ≤ 1024) {Q : HI → HR → Prop} (hQ : ∀ I1, Fr (ctP 1 w) I I1 → CN I1 1 (aTab b w z0) → CT I1 (up2 T 7 w none) F L own 1 (aTab b w z0) → Q I1 (up2 T 7 w none)) : Net_startTable I T L 1 (nI w) Q := by
  have n8 := W.2.1
  unfold Net_startTable
  refine ⟨vin (by omega) (by omega), Net_clearTable_k N.1 N.2.1 (N.2.2.2.1 w hw) (N.2.2.2.2.2.1 w hw) (W.2.2.2.2.2 w hw).1 (hr_lt _ _ _) n8 W.2.2.1 W.2.2.2.1 (by omega) (fun I1 f1 ho hvv1 hz => ?_)⟩
  have hz : ∀ k, k < avw b w → I1 (1 + 7) (1024 * w + k) = 0 := hz hv
  have hv1 : I1 (1 + 4) w = vwi (avw b w) := hvv1
  rw [nx_nI (by omega)]
  have f3 : Fr (fun x i => x = 1 + 7 ∧ 1024 * w ≤ i ∧ i < 1024 * w + 1024) I I1 := by
    intro x i hx
    by_cases e : x = 1 + 4 ∧ i = w
    · rw [e.1, e.2, hv1, N.2.2.2.2.2.2.1 w hw]
    · exact f1 x i (by unfold ctP; omega)
  refine hQ I1 f1 (CN_tab W N hw f3 (fun i hi => ?_) (fun v hv => hz v hv)) (CT_tab W C (fun x i hx => f1 _ _ (by have := o56 x; unfold ctP; omega)) hw (up2_same _ _ _ _) (fun k hk => by rw [up2_get, if_neg (by omega)]))
  rcases ho i with h9 | h9
  · rw [h9]; exact N.2.2.2.2.2.2.2.2.1 i hi
  · rw [h9]; exact byt0
theorem settled_k {I I2 : HI} {T F : HR} {L : HL} {own : Nat → Nat} {b : AN} {w : Nat} {t : Nat → Nat} (W : WF b) (N : CN I 1 (aTab b w z0)) (C : CT I T F L own 1 (aTab b w z0)) (o56 : ∀ x, x < 56 → own x = 0) (hw : w < an b) (hv : avw b w ≤ 1024) (f : Fr (fun x i => x = 1 + 7 ∧ 1024 * w ≤ i ∧ i < 1024 * w + 1024) I I2) (hb : ∀ i, i < 8192 → byt (I2 (1 + 7) i)) (ht : ∀ v, v < avw b w → I2 (1 + 7) (1024 * w + v) = nI (t v)) : CN I2 1 (aTab b w t) ∧ CT I2 T F L own 1 (aTab b w t) := by
  have W0 : WF (aTab b w z0) := aTab_WF W hv (fun _ _ => Nat.zero_le _)
  have n1 := CN_tab (t := t) W0 N hw f hb ht
  have hT : T (1 + 6) w = none := by
    rcases C.2.2 w hw with g | ⟨g, _⟩
    · exact g.2
    · have g : upn (akd b) w 0 w = 1 := g
      rw [upn_same] at g; omega
  have c1 := CT_tab (t := t) (T' := T) W0 C (fun x i hx => f x i (by have := o56 x; omega)) hw hT (fun _ _ => rfl)
  rw [aTab_2] at n1 c1
  exact ⟨n1, c1⟩
theorem InvB.gen {own h : Nat → Nat} {a a' : AN} {ro : Nat} {I I' : HI} {T T' F : HR} {L : HL} {IM IM' : HI} (B : InvB own h a ro I T F L IM) (W : WF a') (R : RepM IM' a') (N : CN I' 1 a') (C : CT I' T' F L own 1 a') (hw : WorI a' IM') (hl : LedI a' h I') (h17 : ∀ i, i < 8192 → byt (I' 17 i)) (g1 : JudI h I' IM') (g2 : TapI I' IM') (g3 : I' 28 1 = IM' 0 18) (g4 : I' 35 0 = IM' 0 49) (g5 : SumI I' IM') (g6 : CovI I' IM') (hI : ∀ b i, own b = 2 ∨ 4 ≤ own b → I' b i = I b i) (hT : ∀ b i, b = 19 ∨ 4 ≤ own b → T' b i = T b i) (hM : ∀ b i, 38 ≤ b → IM' b i = IM b i) : InvB own h a' ro I' T' F L IM' := by
  obtain ⟨b1, b2, b3, b4, b5, b6, r1, r2, r3, r4, r5, r6, r7, r8, r9, r10⟩ := B
  exact ⟨W, R, N, C, hw, hl, r1, r2, h17, g1, g2, g3, g4, g5, g6, fun s hs => (r10 s hs).fr2 hI hT Ext.rf hM⟩
/-- all guess at once, with tables -/
def ato (a : AN) : Prop := ∀ w, w < an a → ard a w = 0 ∧ avw a w ≤ 1024
theorem H_ato {I : HI} {a : AN} (W : WF a) (N : CN I 1 a) {Q X : Prop} (hy : ato a → Q) (hn : ¬ ato a → X) : H_needTablesAtOnce I Q X := by
  have n8 := W.2.1
  have key : ∀ d i, i + d = an a → (∀ w, w < i → ard a w = 0 ∧ avw a w ≤ 1024) → H_needTablesAtOnce_l2 I Q X (d + 1) (nI i) := by
    intro d
    induction d with
    | zero =>
      intro i hi h
      rw [H_needTablesAtOnce_l2, N.1]
      exact it (nI_le (by omega) (by omega)) (hy (fun w hw => h w (by omega)))
    | succ d ih =>
      intro i hi h
      have r7 := (W.2.2.2.2.2 i (by omega)).2.2.1
      rw [H_needTablesAtOnce_l2, N.1, nx_nI (by omega), show I 3 i = nI (ard a i) from N.2.2.2.2.1 i (by omega), show I 5 i = vwi (avw a i) from N.2.2.2.2.2.2.1 i (by omega), nI_1]
      have v : vp_in (nI i) 8 := vin (by omega) (by omega)
      unfold H_needTablesAtOnce_b38
      refine ie (nI_ge (by omega) (by omega)) ⟨v, ic (fun hc => ⟨v, ?_⟩) (fun hc => hn (fun q => hc (by rw [(q i (by omega)).1]; rfl)))⟩
      rw [nlit0, nI_eq (by omega) (by omega)] at hc
      unfold vwi
      by_cases hv : avw a i ≤ 1024
      · rw [if_pos hv]
        refine ie (nI_nm1 (by omega)) (ih (i + 1) (by omega) (fun w hw => ?_))
        by_cases e : w = i
        · rw [e]; exact ⟨hc, hv⟩
        · exact h w (by omega)
      · rw [if_neg hv]; exact it rfl (hn (fun q => hv (q i (by omega)).2))
  exact ⟨an a + 1, key (an a) 0 (by omega) (fun w hw => by omega)⟩
theorem M_ato {I : HI} {a : AN} (W : WF a) (R : RepM I a) {Q : Int32 → Prop} (hy : ato a → Q 1) (hn : ¬ ato a → Q 0) : M_areAtOnce I Q := by
  have n8 := W.2.1
  have no : ∀ d i, i + d = an a → ¬ ato a → M_areAtOnce_l4 I Q (d + 1) 0 (nI i) := by
    intro d
    induction d with
    | zero =>
      intro i hi h
      rw [M_areAtOnce_l4, R.1.1]
      exact it (nI_le (by omega) (by omega)) ⟨zb_0, hn h⟩
    | succ d ih =>
      intro i hi h
      rw [M_areAtOnce_l4, R.1.1, nI_1]
      exact ie (nI_ge (by omega) (by omega)) (it rfl (ih (i + 1) (by omega) h))
  have key : ∀ d i, i + d = an a → (∀ w, w < i → ard a w = 0 ∧ avw a w ≤ 1024) → M_areAtOnce_l4 I Q (d + 1) 1 (nI i) := by
    intro d
    induction d with
    | zero =>
      intro i hi h
      rw [M_areAtOnce_l4, R.1.1]
      exact it (nI_le (by omega) (by omega)) ⟨zb_1, hy (fun w hw => h w (by omega))⟩
    | succ d ih =>
      intro i hi h
      have r7 := (W.2.2.2.2.2 i (by omega)).2.2.1
      rw [M_areAtOnce_l4, R.1.1, nx_nI (by omega), R.1.2.2.2.1 i (by omega)]
      simp only [nI_1]
      have v : vp_in (nI i) 8 := vin (by omega) (by omega)
      refine ie (nI_ge (by omega) (by omega)) (ie (by decide) ⟨v, ic (fun hc => ?_) (fun hc => no d (i + 1) (by omega) (fun q => hc (by rw [(q i (by omega)).1]; rfl)))⟩)
      rw [nlit0, nI_eq (by omega) (by omega)] at hc
      refine M_viewsOf_k R.1 (by omega) ?_
      unfold vwc
      by_cases hv : avw a i ≤ 1024
      · have hv' : vw (an a) (aq a) (alk a) (ard a) i ≤ 1024 := hv
        rw [if_pos hv', nlit1024]
        refine ie (nI_nlt hv' (by omega)) (ih (i + 1) (by omega) (fun w hw => ?_))
        by_cases e : w = i
        · rw [e]; exact ⟨hc, hv⟩
        · exact h w (by omega)
      · have hv' : ¬ vw (an a) (aq a) (alk a) (ard a) i ≤ 1024 := hv
        rw [if_neg hv']
        exact it (by decide) (no d (i + 1) (by omega) (fun q => hv (q i (by omega)).2))
  exact ⟨an a + 1, key (an a) 0 (by omega) (fun w hw => by omega)⟩
/-- with all rounds 0 nobody hears -/
theorem ato_h {a : AN} (h : ato a) {w : Nat} (hw : w < an a) : ahr a w = 0 := by
  unfold ahr hr
  rw [← msk_false (n := an a)]
  exact msk_cong (fun k hk => by rw [(h k hk).1, (h w hw).1]; rfl)
