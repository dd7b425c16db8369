/-! sums: the reference's side -/
def smQ : Nat → Nat → Prop := fun b i => b = 17 ∨ b = 28 ∨ b = 29 ∨ b = 30 ∨ b = 0 ∧ i = 50
def seen (a : AN) (I : HI) (r : Nat) : Prop := ∀ r', r' < r → ∀ w, w < an a → I 30 (8 * r' + w) = nI (sumo (alk a w) (an a) (hat a r') + hat a r' w)
theorem isWonBy_k {I : HI} {a : AN} {lw k r : Nat} {t : Nat → Nat} (W : WF a) (R : RepM I a) (r256 : aq a ^ an a ≤ 256) (hr : r < aq a ^ an a) (hs : seen a I (aq a ^ an a)) (ht : ∀ w, w < an a → I 29 w = nI (t w)) (tq : ∀ w, t w < aq a) (e4 : I 0 4 = nI lw) (e5 : I 0 5 = nI k) (l3 : lw ≤ 3) (k8 : k ≤ 8) {Q : Int32 → Prop} (hQ : Q (b01 (svw a lw k t r))) : M_isWonBy I (nI r) Q := by
  have n8 := W.2.1
  have q2 := W.2.2.1
  have q4 := W.2.2.2.1
  have key : ∀ d w, w + d = an a → M_isWonBy_l4 I (nI r) Q (d + 1) (nI (msk (fun w => decide (nsd a r w = t w)) w)) (nI w) := by
    intro d
    induction d with
    | zero =>
      intro w hw
      have : w = an a := by omega
      subst this
      have ml := msk_lt (fun w => decide (nsd a r w = t w)) (an a)
      obtain ⟨g1, g2⟩ := wrg_k (an a) (by omega) _ ml
      rw [M_isWonBy_l4, R.1.1]
      refine it (nI_le (Nat.le_refl _) (by omega)) (M_all_k R.1 ?_)
      rw [g1]
      refine M_isWon_k e4 e5 R.1.1 l3 k8 n8 ml (by omega) ?_
      rw [g2, pop_msk _ n8]
      refine ⟨?_, hQ⟩
      show zb (b01 (svw a lw k t r))
      cases svw a lw k t r
      · exact zb_0
      · exact zb_1
    | succ d ih =>
      intro w hw
      have ih := ih (w + 1) (by omega)
      rw [msk_succ] at ih
      have b1 := hat3 W r w
      have b2 := sumo_le (m := alk a w) (fun k => hat3 W r k) (an a)
      have tw := tq w
      have b3 := nsd_lt W r w
      rw [M_isWonBy_l4, R.1.1, R.1.2.1, nlit8, nM, nI_add, nx_nI (show 8 * r + w < 2 ^ 31 by omega), nx_nI (show w < 2 ^ 31 by omega), hs r hr w (by omega), ht w (by omega), nRem (by omega) (by omega), Nat.add_comm (sumo (alk a w) (an a) (hat a r))]
      simp only [nI_1]
      have e : (hat a r w + sumo (alk a w) (an a) (hat a r)) % aq a = nsd a r w := rfl
      rw [e]
      refine ie (nI_ge (by omega) (by omega)) ⟨vin (by omega) (by omega), nI_ne0 (by omega) (by omega), vin (by omega) (by omega), ic (fun hc => ?_) (fun hc => ?_)⟩
      · rw [nI_eq (by omega) (by omega)] at hc
        rw [if_pos (by simp [hc])] at ih
        rw [nShl1 w (by omega), nOr]; exact ih
      · rw [nI_eq (by omega) (by omega)] at hc
        rw [if_neg (by simp [hc])] at ih
        exact ih
  exact ⟨an a + 1, key (an a) 0 (by omega)⟩
theorem sums_165 {I : HI} {a : AN} {h : Nat → Nat} {lw k c : Nat} {o : Option Nat} (W : WF a) (R : RepM I a) (r256 : aq a ^ an a ≤ 256) (hs : seen a I (aq a ^ an a)) (ht : ∀ w, w < an a → I 29 w = nI (tc (an a) (aq a) c w)) (hH : ∀ c, c < 4 → I 1 c = nI (h c) ∧ h c ≤ 9) (e4 : I 0 4 = nI lw) (e5 : I 0 5 = nI k) (l3 : lw ≤ 3) (k8 : k ≤ 8) (ho : ∀ x, o = some x → x ≤ 256) {K : HI → Int32 → Int32 → Prop} {Q : Int32 → HI → Prop}
    (hy : bet o (sval a h lw k (tc (an a) (aq a) c)) = true → ∀ I', Fr (fun b _ => b = 28) I I' → (∀ w, w < an a → I' 28 w = nI (tc (an a) (aq a) c w)) → K I' (nI (sval a h lw k (tc (an a) (aq a) c))) (nI (c + 1))) (hno : bet o (sval a h lw k (tc (an a) (aq a) c)) = false → K I (enc o) (nI (c + 1))) :
    ∀ d r, r + d = aq a ^ an a → M_sums_l165 I (enc o) (nI c) K Q (d + 1) (nI (cnt (fun r => cts a h r && svw a lw k (tc (an a) (aq a) c) r) r)) (nI r) := by
  have n8 := W.2.1
  have q2 := W.2.2.1
  intro d
  induction d with
  | zero =>
    intro r hr
    have : r = aq a ^ an a := by omega
    subst this
    have vle : sval a h lw k (tc (an a) (aq a) c) ≤ 256 := Nat.le_trans (cnt_le _ _) r256
    have ee := enc_lt (v := sval a h lw k (tc (an a) (aq a) c)) (o := o) (by omega) (fun x e => by have := ho x e; omega)
    rw [M_sums_l165, R.2.1]
    refine it (nI_le (Nat.le_refl _) (by omega)) ?_
    show if enc o < nI (sval a h lw k (tc (an a) (aq a) c)) then _ else _
    refine ic (fun hc => ?_) (fun hc => ?_)
    · have hb : bet o (sval a h lw k (tc (an a) (aq a) c)) = true := by
        cases e : bet o (sval a h lw k (tc (an a) (aq a) c)) with
        | true => rfl
        | false => exact absurd (ee.mpr e) (nle_of_lt hc)
      have key : ∀ d w I', w + d = an a → Fr (fun b _ => b = 28) I I' → (∀ j, j < w → I' 28 j = nI (tc (an a) (aq a) c j)) → M_sums_l216 (nI (sval a h lw k (tc (an a) (aq a) c))) (nI c) K Q (d + 1) I' (nI w) := by
        intro d
        induction d with
        | zero =>
          intro w I' hw f h28
          rw [M_sums_l216, f _ _ (by omega), R.1.1, nI_1]
          exact it (nI_le (by omega) (by omega)) (hy hb I' f (fun j hj => h28 j (by omega)))
        | succ d ih =>
          intro w I' hw f h28
          rw [M_sums_l216, f _ _ (by omega), R.1.1, nx_nI (by omega), f 29 _ (by omega), ht w (by omega)]
          simp only [nI_1]
          refine ie (nI_ge (by omega) (by omega)) ⟨vin (by omega) (by omega), vin (by omega) (by omega), ih (w + 1) _ (by omega) (f.up rfl) (fun j hj => ?_)⟩
          rw [up2_get]
          by_cases e : j = w
          · rw [if_pos ⟨rfl, e⟩, e]
          · rw [if_neg (by omega)]; exact h28 j (by omega)
      exact ⟨an a + 1, key (an a) 0 I (by omega) Fr.rf (fun j hj => by omega)⟩
    · have hb : bet o (sval a h lw k (tc (an a) (aq a) c)) = false := by
        cases e : bet o (sval a h lw k (tc (an a) (aq a) c)) with
        | false => rfl
        | true =>
          refine absurd (lt_of_nle (fun q => ?_)) hc
          rw [ee.mp q] at e; cases e
      rw [nI_1]
      exact hno hb
  | succ d ih =>
    intro r hr
    have ih := ih (r + 1) (by omega)
    rw [cnt_succ] at ih
    rw [M_sums_l165, R.2.1]
    refine ie (nI_ge (by omega) (by omega)) (M_counts_k W R.1.1 R.1.2.1 hH (by omega) ?_)
    simp only [nI_1]
    cases hc : cts a h r with
    | false => rw [hc, if_neg (by simp)] at ih; exact it rfl ih
    | true =>
      refine ie (by decide) (isWonBy_k W R r256 (by omega) hs ht (fun w => tc_lt q2) e4 e5 l3 k8 ?_)
      cases hv : svw a lw k (tc (an a) (aq a) c) r with
      | false => rw [hv, if_neg (by simp)] at ih; exact it rfl ih
      | true => rw [hc, hv, if_pos (by simp)] at ih; exact ie (by decide) ih
theorem sums_128 {I0 : HI} {n q c : Nat} {x1 x2 : Int32} (n8 : n ≤ 8) (q2 : 2 ≤ q) (q4 : q ≤ 4) (e2 : I0 0 2 = nI q) (hc : c < 2 ^ 31) {K : HI → Int32 → Int32 → Prop} {Q : Int32 → HI → Prop} (hQ : ∀ I, Fr (fun b _ => b = 29) I0 I → (∀ w, w < n → I 29 w = nI (tc n q c w)) → ∃ nn, M_sums_l165 I x1 x2 K Q nn 0 0) : ∀ j I, j ≤ n → Fr (fun b _ => b = 29) I0 I → (∀ w, w < n → j ≤ w → I 29 w = nI (tc n q c w)) → ∀ z, z = nI j + (-1) → M_sums_l128 x1 x2 K Q (j + 1) I (nI (c / q ^ (n - j))) z := by
  intro j
  induction j with
  | zero =>
    intro I hj f h z hz
    have hz : z = -1 := hz
    rw [hz, M_sums_l128]
    exact it (by decide) (hQ I f (fun w hw => h w hw (by omega)))
  | succ j ih =>
    intro I hj f h z hz
    rw [nDec (by omega), Nat.add_sub_cancel] at hz
    have hd : c / q ^ (n - (j + 1)) < 2 ^ 31 := Nat.lt_of_le_of_lt (Nat.div_le_self _ _) hc
    have k2 : ∀ v, (up2 I 29 j v) 0 2 = nI q := fun v => by rw [up2_get, if_neg (by omega), f _ _ (by omega)]; exact e2
    rw [hz, M_sums_l128, nx_nI (by omega), f _ _ (by omega), e2, nRem hd (by omega), k2, nDiv hd (by omega), Nat.div_div_eq_div_mul, ← Nat.pow_succ, show (n - (j + 1)).succ = n - j by omega]
    refine ie (nI_pos (by omega)) ⟨nI_ne0 (by omega) (by omega), vin (by omega) (by omega), nI_ne0 (by omega) (by omega), ?_⟩
    have h10 := ih (up2 I 29 j (nI (c / q ^ (n - (j + 1)) % q))) (by omega) (f.up rfl) (fun w hw hjw => by
      rw [up2_get]
      by_cases e : w = j
      · rw [if_pos ⟨rfl, e⟩, e]; unfold tc; rw [show n - 1 - j = n - (j + 1) by omega]
      · rw [if_neg (by omega)]; exact h w hw (by omega))
    generalize nI j + (-1) = zz at h10 ⊢
    exact h10 zz rfl
theorem ato_v {a : AN} (W : WF a) (h : ato a) {w : Nat} (hw : w < an a) : avw a w ≤ aq a ^ 8 := by
  have q2 := W.2.2.1
  have e : avw a w = aq a ^ pop (alk a w) * (aq a + 1) ^ pop (ahr a w) := rfl
  rw [e, ato_h h hw, pop_0, Nat.pow_zero, Nat.mul_one]
  exact Nat.pow_le_pow_right (by omega) (pop_le _)
theorem sums_296 {I : HI} {a : AN} {w v c : Nat} {x1 : Int32} (W : WF a) (e2 : I 0 2 = nI (aq a)) (hw : w < 8) (hv : v < 1024) (hc : c < 4) {K1 K2 : HI → Int32 → Prop} {Q : Int32 → HI → Prop} (hK : K2 (up2 I 5 (1024 * w + v) (nI (fmod (nI c - nI (dsm (aq a) 8 v)) (aq a)))) (nI (v + 1))) : ∀ d s x, d ≤ 8 → s + dsm (aq a) d x = dsm (aq a) 8 v → x < aq a ^ d → x ≤ v → M_sums_l296 I x1 (nI w) (nI v) K1 K2 Q (d + 1) (nI c - nI s) (nI x) := by
  have q2 := W.2.2.1
  have q4 := W.2.2.2.1
  have fin : ∀ s, s = dsm (aq a) 8 v → ¬ nI (aq a) = 0 ∧ ¬ nI (aq a) = 0 ∧ vp_in (nI (1024 * w + v)) 8192 ∧ K2 (up2 I 5 (1024 * w + v) (irm ((irm (nI c - nI s) (nI (aq a))) + nI (aq a)) (nI (aq a)))) (nI (v + 1)) := by
    intro s hs
    have := dsm_le q2 q4 8 v
    rw [fm_k (aq a) (by omega) q2 c hc s (by omega), hs]
    exact ⟨nI_ne0 (by omega) (by omega), nI_ne0 (by omega) (by omega), vin (by omega) (by omega), hK⟩
  intro d
  induction d with
  | zero =>
    intro s x hd hs hx hxv
    have : x = 0 := by rw [Nat.pow_zero] at hx; omega
    subst this
    rw [M_sums_l296, e2, nlit1024, nM, nI_add, nx_nI (by omega), nI_1]
    exact it (by decide) (fin s hs)
  | succ d ih =>
    intro s x hd hs hx hxv
    rw [M_sums_l296, e2, nlit1024, nM, nI_add, nx_nI (by omega), nI_1]
    by_cases h0 : x = 0
    · subst h0
      rw [dsm_0] at hs
      exact it (by decide) (fin s hs)
    · refine ie (nI_nle (by omega) (by omega)) ⟨nI_ne0 (by omega) (by omega), nI_ne0 (by omega) (by omega), ?_⟩
      rw [nRem (by omega) (by omega), nDiv (by omega) (by omega), sub_sub32, nI_add]
      rw [dsm, ← Nat.add_assoc] at hs
      refine ih (s + x % aq a) (x / aq a) (by omega) hs ?_ (Nat.le_trans (Nat.div_le_self _ _) hxv)
      rw [Nat.pow_succ] at hx
      exact Nat.div_lt_of_lt_mul (by rw [Nat.mul_comm]; exact hx)
theorem sums_261 {I0 : HI} {a : AN} {b : Nat} {x1 : Int32} (W : WF a) (h : ato a) (h28 : ∀ w, w < an a → I0 28 w = nI (tc (an a) (aq a) b w)) {Q : Int32 → HI → Prop} (hQ : ∀ I, Fr (fun x _ => x = 4 ∨ x = 5) I0 I → RepM I (aAll a (sut (an a) (aq a) b) (an a)) → Q x1 (up2 I 0 40 0)) : ∀ d i I, i + d = an a → Fr (fun x _ => x = 4 ∨ x = 5) I0 I → RepM I (aAll a (sut (an a) (aq a) b) i) → M_sums_l261 x1 Q (d + 1) I (nI i) := by
  have n8 := W.2.1
  have q2 := W.2.2.1
  have q4 := W.2.2.2.1
  have WA := aAll_WF (ts := sut (an a) (aq a) b) W (fun w hw => (h w hw).2) (fun w _ v _ => Nat.le_of_lt (sut_lt q2))
  intro d
  induction d with
  | zero =>
    intro i I hi f R
    have : i = an a := by omega
    subst this
    rw [M_sums_l261, R.1.1]
    exact it (nI_le (Nat.le_refl _) (by omega)) (hQ I f R)
  | succ d ih =>
    intro i I hi f R
    have hi' : i < an a := by omega
    have hvi : avw a i ≤ 1024 := (h i hi').2
    have hvi' : vw (an a) (aq a) (alk a) (ard a) i ≤ 1024 := hvi
    have h8 := ato_v W h hi'
    have tl : tc (an a) (aq a) b i < aq a := tc_lt q2
    rw [M_sums_l261, show I 0 1 = nI (an a) from R.1.1]
    refine ie (nI_ge (by omega) (by omega)) (M_blank_k R.1 (show i < an (aAll a (sut (an a) (aq a) b) i) from hi') (fun I1 f1 z1 k1 => ⟨avw a i + 1, ?_⟩))
    have k1 : I1 4 i = 0 := by
      rw [k1]
      have : vw (an (aAll a (sut (an a) (aq a) b) i)) (aq (aAll a (sut (an a) (aq a) b) i)) (alk (aAll a (sut (an a) (aq a) b) i)) (ard (aAll a (sut (an a) (aq a) b) i)) i ≤ 1024 := hvi'
      rw [if_pos this]; rfl
    have inner : ∀ e v J, v + e = avw a i → Fr (bP i) I J → J 4 i = 0 → (∀ k, k < v → J 5 (1024 * i + k) = nI (sut (an a) (aq a) b i k)) → M_sums_l276 x1 (nI i) (fun I' x2' => M_sums_l261 x1 Q (d + 1) I' x2') Q (e + 1) J (nI v) := by
      intro e
      induction e with
      | zero =>
        intro v J he fJ k4 ht
        have MJ : MN J (an a) (aq a) (alk a) (ard a) := MN.fr R.1 fJ (by unfold bP; omega) (by unfold bP; omega) (fun w _ => by unfold bP; omega) (fun w _ => by unfold bP; omega)
        rw [M_sums_l276]
        refine M_viewsOf_k MJ hi' ?_
        unfold vwc
        rw [if_pos hvi', nI_1]
        refine it (nI_le (show vw (an a) (aq a) (alk a) (ard a) i ≤ v from by have : avw a i = vw (an a) (aq a) (alk a) (ard a) i := rfl; omega) (by omega)) ?_
        have R2 := RepM_tab (t := sut (an a) (aq a) b i) (WA i (by omega)) R (show i < an (aAll a (sut (an a) (aq a) b) i) from hi') (fJ.mono (fun x k hx => by unfold bP at hx; omega)) k4 (fun v' hv' => ht v' (by have hv' : v' < avw a i := hv'; omega))
        rw [aAll_s] at R2
        exact ih (i + 1) J (by omega) (f.tr (fJ.mono (fun x k hx => by unfold bP at hx; omega))) R2
      | succ e ihe =>
        intro v J he fJ k4 ht
        have MJ : MN J (an a) (aq a) (alk a) (ard a) := MN.fr R.1 fJ (by unfold bP; omega) (by unfold bP; omega) (fun w _ => by unfold bP; omega) (fun w _ => by unfold bP; omega)
        have j28 : J 28 i = nI (tc (an a) (aq a) b i) := by rw [fJ _ _ (by unfold bP; omega), f _ _ (by omega)]; exact h28 i hi'
        rw [M_sums_l276]
        refine M_viewsOf_k MJ hi' ?_
        unfold vwc
        rw [if_pos hvi', nx_nI (by omega), j28]
        have ev : avw a i = vw (an a) (aq a) (alk a) (ard a) i := rfl
        refine ie (nI_ge (by omega) (by omega)) ⟨vin (by omega) (by omega), 9, ?_⟩
        have := sums_296 (I := J) (w := i) (v := v) (c := tc (an a) (aq a) b i) (x1 := x1) (K1 := fun I' x2' => M_sums_l261 x1 Q (d + 1) I' x2') (Q := Q) W MJ.2.1 (by omega) (by omega) (by omega) (ihe (v + 1) _ (by omega) (fJ.up (by unfold bP; omega)) (by rw [up2_get, if_neg (by omega)]; exact k4) (fun k hk => by
          rw [up2_get]
          by_cases ek : k = v
          · rw [if_pos ⟨rfl, by omega⟩, ek]; rfl
          · rw [if_neg (by omega)]; exact ht k (by omega))) 8 0 v (by omega) (by omega) (by omega) (Nat.le_refl _)
        rw [show (nI (tc (an a) (aq a) b i) - nI 0 : Int32) = nI (tc (an a) (aq a) b i) from by rw [nS (Nat.zero_le _)]; rfl] at this
        exact this
    exact inner (avw a i) 0 I1 (by omega) f1 k1 (fun k hk => by omega)
abbrev sbR (a : AN) (h : Nat → Nat) (lw k : Nat) : Option Nat × Nat := sbs (fun c => sval a h lw k (tc (an a) (aq a) c)) (aq a ^ an a) 0 none 0
theorem sums_110 {I0 : HI} {a : AN} {h : Nat → Nat} {lw k : Nat} (W : WF a) (ha : ato a) (R : RepM I0 a) (r256 : aq a ^ an a ≤ 256) (hs : seen a I0 (aq a ^ an a)) (hH : ∀ c, c < 4 → I0 1 c = nI (h c) ∧ h c ≤ 9) (e4 : I0 0 4 = nI lw) (e5 : I0 0 5 = nI k) (l3 : lw ≤ 3) (k8 : k ≤ 8) {Q : Int32 → HI → Prop} (hQ : ∀ I, Fr (fun x i => x = 4 ∨ x = 5 ∨ x = 28 ∨ x = 29 ∨ x = 0 ∧ (i = 50 ∨ i = 40)) I0 I → RepM I (aAll a (sut (an a) (aq a) (sbR a h lw k).2) (an a)) → I 0 50 = nI (an a) → I 0 40 = 0 → (∀ w, w < an a → I 28 w = nI (tc (an a) (aq a) (sbR a h lw k).2 w)) → Q (enc (sbR a h lw k).1) I) :
    ∀ d c o b I, c + d = aq a ^ an a → sbs (fun c => sval a h lw k (tc (an a) (aq a) c)) d c o b = sbR a h lw k → (c = 0 ∨ o ≠ none) → (∀ x, o = some x → x ≤ 256) → Fr (fun b _ => b = 28 ∨ b = 29) I0 I → (o ≠ none → ∀ w, w < an a → I 28 w = nI (tc (an a) (aq a) b w)) → M_sums_l110 Q (d + 1) I (enc o) (nI c) := by
  have n8 := W.2.1
  have n1 := W.1
  have q2 := W.2.2.1
  have q4 := W.2.2.2.1
  have p1 : 1 ≤ aq a ^ an a := Nat.pow_pos (by omega)
  intro d
  induction d with
  | zero =>
    intro c o b I hc hb ho hx f h28
    have R1 : RepM I a := R.eq (fun b i hb => f _ _ (by omega))
    have ho : o ≠ none := by
      rcases ho with q | q
      · omega
      · exact q
    have hb : (o, b) = sbR a h lw k := hb
    rw [← hb] at hQ
    rw [M_sums_l110, R1.2.1, R1.1.1]
    have f50 : Fr (fun x i => x = 0 ∧ i = 50) I (up2 I 0 50 (nI (an a))) := Fr.rf.up ⟨rfl, rfl⟩
    refine it (nI_le (by omega) (by omega)) ⟨an a + 1, sums_261 (b := b) W ha (fun w hw => (f50 _ _ (by omega)).trans (h28 ho w hw)) (fun I' f' R' => hQ _ ?_ (R'.eq (fun x i hx => by rw [up2_get, if_neg (by omega)])) ?_ (up2_same _ _ _ _) (fun w hw => ?_)) (an a) 0 _ (by omega) Fr.rf (R1.eq (fun x i hx => f50 _ _ (by omega)))⟩
    · exact ((f.mono (fun x i hx => by omega)).tr ((f50.mono (fun x i hx => by omega)).tr (f'.mono (fun x i hx => by omega)))).up (by omega)
    · rw [up2_get, if_neg (by omega), f' _ _ (by omega)]; exact up2_same _ _ _ _
    · rw [up2_get, if_neg (by omega), f' _ _ (by omega), f50 _ _ (by omega)]; exact h28 ho w hw
  | succ d ih =>
    intro c o b I hc hb ho hx f h28
    have R1 : RepM I a := R.eq (fun b i hb => f _ _ (by omega))
    rw [sbs] at hb
    rw [M_sums_l110, R1.2.1, R1.1.1]
    have vle : sval a h lw k (tc (an a) (aq a) c) ≤ 256 := Nat.le_trans (cnt_le _ _) r256
    refine ie (nI_ge (by omega) (by omega)) ⟨an a + 1, ?_⟩
    have h10 := sums_128 (I0 := I) (n := an a) (q := aq a) (c := c) (x1 := enc o) (x2 := nI c) (K := fun I' x1' x2' => M_sums_l110 Q (d + 1) I' x1' x2') (Q := Q) n8 q2 q4 R1.1.2.1 (by omega) (fun I2 f2 h29 => ?_) (an a) I (Nat.le_refl _) Fr.rf (fun w hw hj => by omega)
    · generalize hz : nI (an a) + (-1) = zz at h10
      have := h10 zz rfl
      rw [← hz, Nat.sub_self, Nat.pow_zero, Nat.div_one, nDec n1] at this
      rw [show (nI (an a) - 1 : Int32) = nI (an a - 1) from by rw [nlit1, nS n1]]
      exact this
    · have R2 : RepM I2 a := R1.eq (fun b i hb => f2 _ _ (by omega))
      have ff : Fr (fun b _ => b = 28 ∨ b = 29) I0 I2 := f.tr (f2.mono (fun b i hb => Or.inr hb))
      refine ⟨aq a ^ an a + 1, sums_165 (h := h) (lw := lw) (k := k) W R2 r256 (fun r' hr' w hw => (ff _ _ (by omega)).trans (hs r' hr' w hw)) h29 (fun c hc => ⟨(ff _ _ (by omega)).trans (hH c hc).1, (hH c hc).2⟩) ((ff _ _ (by omega)).trans e4) ((ff _ _ (by omega)).trans e5) l3 k8 hx (fun hbt I3 f3 h3 => ?_) (fun hbt => ?_) _ 0 (by omega)⟩
      · rw [if_pos hbt] at hb
        exact ih (c + 1) (some _) c I3 (by omega) hb (Or.inr (by simp)) (fun x e => by cases e; exact vle) (ff.tr (f3.mono (fun b i hb => Or.inl hb))) (fun _ => h3)
      · rw [if_neg (by rw [hbt]; decide)] at hb
        have ho : o ≠ none := fun e => by rw [e] at hbt; cases hbt
        exact ih (c + 1) o b I2 (by omega) hb (Or.inr ho) hx ff (fun ho w hw => (f2 _ _ (by omega)).trans (h28 ho w hw))
theorem sums_39 {I0 : HI} {a : AN} (W : WF a) (R : RepM I0 a) (r256 : aq a ^ an a ≤ 256) {Q : Int32 → HI → Prop} (hQ : ∀ I, Fr (fun b _ => b = 17 ∨ b = 30) I0 I → seen a I (aq a ^ an a) → ∃ nn, M_sums_l110 Q nn I (-1) 0) : ∀ d r I, r + d = aq a ^ an a → Fr (fun b _ => b = 17 ∨ b = 30) I0 I → seen a I r → M_sums_l39 Q (d + 1) I (nI r) := by
  have n8 := W.2.1
  have h256 := p2le n8
  intro d
  induction d with
  | zero =>
    intro r I hr f hs
    have : r = aq a ^ an a := by omega
    subst this
    rw [M_sums_l39, f _ _ (by omega), R.2.1]
    exact it (nI_le (Nat.le_refl _) (by omega)) (hQ I f hs)
  | succ d ih =>
    intro r I hr f hs
    have R1 : RepM I a := R.eq (fun b i hb => f _ _ (by omega))
    rw [M_sums_l39, R1.2.1]
    refine ie (nI_ge (by omega) (by omega)) (M_wears_k R1.1.1 R1.1.2.1 n8 W.2.2.1 W.2.2.2.1 (by omega) (fun I1 f1 h17 => ⟨an a + 1, ?_⟩))
    have h17 : ∀ w, w < an a → I1 17 w = nI (hat a r w) := h17
    have key : ∀ e w J, w + e = an a → Fr (fun b _ => b = 30) I1 J → seen a J r → (∀ j, j < w → J 30 (8 * r + j) = nI (sumo (alk a j) (an a) (hat a r) + hat a r j)) → M_sums_l54 (nI r) (fun I' x1' => M_sums_l39 Q (d + 1) I' x1') Q (e + 1) J (nI w) := by
      intro e
      induction e with
      | zero =>
        intro w J hw fJ sJ hJ
        rw [M_sums_l54, fJ _ _ (by omega), f1 _ _ (by omega), R1.1.1, nI_1]
        refine it (nI_le (by omega) (by omega)) (ih (r + 1) J (by omega) ((f.tr (f1.mono (fun b i hb => Or.inl hb))).tr (fJ.mono (fun b i hb => Or.inr hb))) (fun r' hr' w' hw' => ?_))
        by_cases er : r' = r
        · rw [er]; exact hJ w' (by omega)
        · exact sJ r' (by omega) w' hw'
      | succ e ihe =>
        intro w J hw fJ sJ hJ
        have hw' : w < an a := by omega
        have lw := (W.2.2.2.2.2 w hw').1
        have j1 : J 0 1 = nI (an a) := by rw [fJ _ _ (by omega), f1 _ _ (by omega)]; exact R1.1.1
        have j2 : J 2 w = nI (alk a w) := by rw [fJ _ _ (by omega), f1 _ _ (by omega)]; exact R1.1.2.2.1 w hw'
        have j17 : ∀ k, k < an a → J 17 k = nI (hat a r k) := fun k hk => (fJ _ _ (by omega)).trans (h17 k hk)
        rw [M_sums_l54, j1, nx_nI (show w < 2 ^ 31 by omega), j2]
        refine ie (nI_ge (by omega) (by omega)) ⟨vin (by omega) (by omega), M_sum_k j1 n8 (by omega) (fun k hk _ => j17 k hk) ⟨vin (by omega) (by omega), ?_⟩⟩
        rw [nlit8, nM, nI_add, nx_nI (by omega), j17 w hw', nI_add, nI_1]
        refine ⟨vin (by omega) (by omega), ihe (w + 1) _ (by omega) (fJ.up rfl) (fun r' hr' w' hw' => ?_) (fun j hj => ?_)⟩
        · rw [up2_get, if_neg (by omega)]; exact sJ r' hr' w' hw'
        · rw [up2_get]
          by_cases ej : j = w
          · rw [if_pos ⟨rfl, by omega⟩, ej]
          · rw [if_neg (by omega)]; exact hJ j (by omega)
    exact key (an a) 0 I1 (by omega) Fr.rf (fun r' hr' w' hw' => by rw [f1 _ _ (by omega)]; exact hs r' hr' w' hw') (fun j hj => by omega)
theorem M_sums_y {IM : HI} {a : AN} {h : Nat → Nat} {lw k : Nat} (W : WF a) (R : RepM IM a) (ha : ato a) (r256 : aq a ^ an a ≤ 256) (hH : ∀ c, c < 4 → IM 1 c = nI (h c) ∧ h c ≤ 9) (e4 : IM 0 4 = nI lw) (e5 : IM 0 5 = nI k) (l3 : lw ≤ 3) (k8 : k ≤ 8) {Q : Int32 → HI → Prop} (hQ : ∀ I, Fr (fun x i => x = 4 ∨ x = 5 ∨ x = 17 ∨ x = 28 ∨ x = 29 ∨ x = 30 ∨ x = 0 ∧ (i = 0 ∨ i = 50 ∨ i = 40)) IM I → I 0 0 = 0 → RepM I (aAll a (sut (an a) (aq a) (sbR a h lw k).2) (an a)) → I 0 50 = nI (an a) → I 0 40 = 0 → (∀ w, w < an a → I 28 w = nI (tc (an a) (aq a) (sbR a h lw k).2 w)) → Q (enc (sbR a h lw k).1) I) : M_sums IM Q := by
  have k0 := Fr0 IM 0
  have R0 : RepM (up2 IM 0 0 0) a := R.eq (fun b i hb => k0 _ _ (by omega))
  unfold M_sums
  refine M_ato W R0 (fun _ => ie (by decide) ?_) (fun q => absurd ha q)
  rw [R0.2.1]
  refine ie (nI_nlt (a := 256) (b := aq a ^ an a) r256 (by omega)) ?_
  unfold M_sums_b28
  refine M_right_y (up00 _ _) (ie (by decide) ⟨aq a ^ an a + 1, sums_39 W R0 r256 (fun I1 f1 hs => ?_) _ 0 _ (by omega) Fr.rf (fun r' hr' => by omega)⟩)
  have R1 : RepM I1 a := R0.eq (fun b i hb => f1 _ _ (by omega))
  have c1 : ∀ x i, x ≠ 17 → x ≠ 30 → ¬ (x = 0 ∧ i = 0) → I1 x i = IM x i := fun x i h1 h2 h3 => (f1 _ _ (by omega)).trans (k0 _ _ h3)
  exact ⟨aq a ^ an a + 1, sums_110 (h := h) (lw := lw) (k := k) W ha R1 r256 hs (fun c hc => ⟨(c1 _ _ (by omega) (by omega) (by omega)).trans (hH c hc).1, (hH c hc).2⟩) ((c1 _ _ (by omega) (by omega) (by omega)).trans e4) ((c1 _ _ (by omega) (by omega) (by omega)).trans e5) l3 k8 (fun I f RI h50 h40 h28 => hQ I (((k0.mono (fun x i hx => by omega)).tr (f1.mono (fun x i hx => by omega))).tr (f.mono (fun x i hx => by omega))) (by rw [f _ _ (by omega), f1 _ _ (by omega)]; exact up00 _ _) RI h50 h40 h28) (aq a ^ an a) 0 none 0 I1 (by omega) rfl (Or.inl rfl) (fun x e => by cases e) Fr.rf (fun q => absurd rfl q)⟩
theorem M_sums_n {IM : HI} {a : AN} (W : WF a) (R : RepM IM a) (hn : ¬ ato a ∨ 256 < aq a ^ an a) {Q : Int32 → HI → Prop} (hQ : Q 0 (up2 (up2 IM 0 0 0) 0 0 1)) : M_sums IM Q := by
  have r5 := W.2.2.2.2.1
  have R0 : RepM (up2 IM 0 0 0) a := R.eq (fun b i hb => Fr0 IM 0 _ _ (by omega))
  have no : M_sums_b27 (up2 IM 0 0 0) Q := by
    unfold M_sums_b27 M_sums_b28
    exact M_right_n (up00 _ _) (it rfl hQ)
  unfold M_sums
  refine M_ato W R0 (fun q => ie (by decide) ?_) (fun _ => it rfl no)
  rw [R0.2.1]
  rcases hn with h | h
  · exact absurd q h
  · exact it (nI_lt (a := 256) h (by omega)) no
theorem st_sums {ro : Nat} {I : HI} {J : HJ} {T F : HR} {L : HL} {IM : HI} {JM : HJ} (hI : Inv ro (I, J, T, F, L) IM JM) : St_sums I J T F L ro IM JM (Inv ro) := by
  obtain ⟨own, h, a, B⟩ := Inv_el hI
  have B0 := B
  obtain ⟨W, R, N, C, b5, b6, b7⟩ := B
  have hro := b7.1.2.2.2.1
  have o56 := b7.1.1
  have nz := nz_own b7.1
  have n8 := W.2.1
  have q2 := W.2.2.1
  have r5 := W.2.2.2.2.1
  obtain ⟨j1, lw, k9, j2, j3, j4, j5, j6, j7⟩ := id b7.2.2.2.1
  unfold St_sums L_sums H_sums
  refine H_ato W N (fun ha => ?_) (fun hn => ⟨hro, M_sums_n W R (Or.inl hn) (fin_no B0 (Fr01 IM) (up00' _))⟩)
  rw [N.2.2.1]
  by_cases r256 : aq a ^ an a ≤ 256
  · refine it (nI_le (b := 256) r256 (by omega)) (Su_seek_k (h := h) (lw := lw) (k := k9) W N r256 (fun c hc => ⟨(j1 c hc).1, (j1 c hc).2.2⟩) j2 j5 j4 j7 (fun I3 f3 e39 h40 => ?_))
    have N3 : CN I3 1 a := N.eq (fun j i hj => f3 _ _ (by unfold suQ; omega))
    have C3 : CT I3 T F L own 1 a := C.fr (fun b i hb => f3 _ _ (by have := nz b; unfold suQ; omega)) (fun _ _ => rfl) n8 Ext.rf
    refine Su_settle_k W N3 C3 o56 (fun w hw => (ha w hw).2) h40 (fun I5 T6 f5 ft N5 C5 => ?_)
    unfold Led_spoil
    refine ⟨hro, M_sums_y (h := h) (lw := lw) (k := k9) W R ha r256 (fun c hc => ⟨(j1 c hc).2.1, (j1 c hc).2.2⟩) j3 j6 j4 j7 (fun IM' fm z0' RM' h50 h4' h28 => fin_ok2 (B0.gen (I' := up2 I5 26 1 0) (T' := T6) (IM' := IM') (a' := aAll a (sut (an a) (aq a) (sbR a h lw k9).2) (an a)) ?_ RM' (N5.eq (fun j i hj => by rw [up2_get, if_neg (by omega)])) (C5.fr (fun b i hb => by have := nz b; rw [up2_get, if_neg (by omega)]) (fun _ _ => rfl) n8 Ext.rf) (Or.inl h4') (Or.inl (up2_same _ _ _ _)) ?_ ?_ ?_ ?_ ?_ ?_ ?_ ?_ ?_ ?_) z0' rfl)⟩
    · exact aAll_WF W (fun w hw => (ha w hw).2) (fun w _ v _ => Nat.le_of_lt (sut_lt q2)) _ (Nat.le_refl _)
    all_goals have g : ∀ b i, ¬ (1 ≤ b ∧ b ≤ 9) → ¬ suQ b i → ¬ (b = 26 ∧ i = 1) → (up2 I5 26 1 0) b i = I b i := fun b i h1 h2 h3 => by rw [up2_get, if_neg h3, f5 _ _ (by unfold nP; omega)]; exact f3 _ _ h2
    · intro i hi; rw [g _ _ (by omega) (by unfold suQ; omega) (by omega)]; exact b7.2.2.1 i hi
    · exact b7.2.2.2.1.eq (fun b i hb => g _ _ (by omega) (by unfold suQ; omega) (by omega)) (fun b i hb => fm _ _ (by omega))
    · exact b7.2.2.2.2.1.eq (fun b i hb => g _ _ (by omega) (by unfold suQ; omega) (by omega)) (fun b i hb => fm _ _ (by omega))
    · rw [g _ _ (by omega) (by unfold suQ; omega) (by omega), fm _ _ (by omega)]; exact b7.2.2.2.2.2.1
    · rw [g _ _ (by omega) (by unfold suQ; omega) (by omega), fm _ _ (by omega)]; exact b7.2.2.2.2.2.2.1
    · refine ⟨an a, ?_, h50, n8, fun w hw => ?_⟩
      · rw [up2_get, if_neg (by omega), f5 _ _ (by unfold nP; omega)]; exact e39
      · rw [up2_get, if_neg (by omega), f5 _ _ (by unfold nP; omega), h40 w hw, h28 w hw]
    · exact b7.2.2.2.2.2.2.2.2.1.eq (fun b i hb => g _ _ (by omega) (by unfold suQ; omega) (by omega)) (fun b i hb => fm _ _ (by omega))
    · intro b i hb
      have := nz b (by omega)
      exact g _ _ (by omega) (by unfold suQ; omega) (by omega)
    · intro b i hb
      refine ft _ _ ?_
      rcases hb with hb | hb
      · omega
      · have := nz b (by omega); omega
    · intro b i hb; exact fm _ _ (by omega)
  · exact ie (nI_ge (a := 256) (by omega) (by omega)) ⟨hro, M_sums_n W R (Or.inr (by omega)) (fin_no B0 (Fr01 IM) (up00' _))⟩
