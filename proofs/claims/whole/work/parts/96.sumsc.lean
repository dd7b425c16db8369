/-! sums: the class's side -/
theorem needs_k {I : HI} {a : AN} {r : Nat} (W : WF a) (N : CN I 1 a) (hh : ∀ w, w < an a → I 21 w = nI (hat a r w)) {Q : Int32 → Prop} (hQ : Q (nI (mk4 (nsd a r) (an a)))) : Su_needsOf I 1 20 Q := by
  have n8 := W.2.1
  have q2 := W.2.2.1
  have q4 := W.2.2.2.1
  have h256 := p2le n8
  have inner : ∀ (K : Int32 → Int32 → Prop) w, w < an a → K (nI (mk4 (nsd a r) (w + 1))) (nI (w + 1)) → ∀ d j, j + d = an a → Su_needsOf_l26 I 1 20 (nI (mk4 (nsd a r) w)) (nI w) K Q (d + 1) (nI (hat a r w + sumo (alk a w) j (hat a r))) (nI j) := by
    intro K w hw hK d
    have lw := (W.2.2.2.2.2 w hw).1
    induction d with
    | zero =>
      intro j hj
      have : j = an a := by omega
      subst this
      have b1 := hat3 W r w
      have b2 := sumo_le (m := alk a w) (fun k => hat3 W r k) (an a)
      have b3 := nsd_lt W r w
      rw [Su_needsOf_l26, N.1, N.2.1, nRem (by omega) (by omega), show (4 : Int32) = nI 4 from rfl, nM, nI_add, nI_1]
      refine it (nI_le (Nat.le_refl _) (by omega)) ⟨nI_ne0 (by omega) (by omega), ?_⟩
      have e : (hat a r w + sumo (alk a w) (an a) (hat a r)) % aq a = nsd a r w := rfl
      rw [e, nShl1 _ (by omega), nOr]
      exact hK
    | succ d ih =>
      intro j hj
      have ih := ih (j + 1) (by omega)
      rw [sumo_s] at ih
      rw [Su_needsOf_l26, N.1, nx_nI (show w < 2 ^ 31 by omega), nx_nI (show j < 2 ^ 31 by omega), N.2.2.2.1 w hw, nBit (by omega) (by omega), show I (20 + 1) j = nI (hat a r j) from hh j (by omega), nM, nI_add]
      simp only [nI_1]
      refine ie (nI_ge (by omega) (by omega)) ⟨vin (by omega) (by omega), vin (by omega) (by omega), ?_⟩
      by_cases hb : (alk a w).testBit j = true
      · rw [if_pos hb] at ih ⊢; rw [Nat.one_mul, Nat.add_assoc]; exact ih
      · rw [if_neg hb] at ih ⊢; rw [Nat.zero_mul]; exact ih
  have outer : ∀ d w, w + d = an a → Su_needsOf_l5 I 1 20 Q (d + 1) (nI (mk4 (nsd a r) w)) (nI w) := by
    intro d
    induction d with
    | zero =>
      intro w hw
      have : w = an a := by omega
      subst this
      rw [Su_needsOf_l5, N.1]
      exact it (nI_le (Nat.le_refl _) (by omega)) hQ
    | succ d ih =>
      intro w hw
      rw [Su_needsOf_l5, N.1, nx_nI (by omega), show I (20 + 1) w = nI (hat a r w) from hh w (by omega)]
      exact ie (nI_ge (by omega) (by omega)) ⟨vin (by omega) (by omega), an a + 1, inner _ w (by omega) (ih (w + 1) (by omega)) (an a) 0 (by omega)⟩
  exact ⟨an a + 1, outer (an a) 0 (by omega)⟩
def suQ : Nat → Nat → Prop := fun b i => b = 21 ∨ b = 25 ∨ b = 40 ∨ b = 41 ∨ b = 42 ∨ b = 43 ∨ b = 39 ∧ i = 1
def ned (a : AN) (h : Nat → Nat) (I : HI) (r : Nat) : Prop := ∀ i, i < (crl a h r).length → I 42 i = nI (mk4 (nsd a ((crl a h r).getD i 0)) (an a))
theorem note_k {I0 : HI} {a : AN} {h : Nat → Nat} (W : WF a) (N : CN I0 1 a) (r256 : aq a ^ an a ≤ 256) (hH : ∀ c, c < 4 → I0 24 c = nI (h c) ∧ h c ≤ 9) {Q : Int32 → HI → Prop} (hQ : ∀ I, Fr suQ I0 I → ned a h I (aq a ^ an a) → Q (nI (crl a h (aq a ^ an a)).length) I) : Su_noteNeeds I0 1 20 Q := by
  have n8 := W.2.1
  have key : ∀ d r I, r + d = aq a ^ an a → Fr suQ I0 I → ned a h I r → Su_noteNeeds_l6 1 20 Q (d + 1) I (nI (crl a h r).length) (nI r) := by
    intro d
    induction d with
    | zero =>
      intro r I hr f hn
      have : r = aq a ^ an a := by omega
      subst this
      rw [Su_noteNeeds_l6, f _ _ (by unfold suQ; omega), N.2.2.1]
      exact it (nI_le (Nat.le_refl _) (by omega)) (hQ I f hn)
    | succ d ih =>
      intro r I hr f hn
      have hl := crl_le a h r
      have N1 : CN I 1 a := N.eq (fun j i hj => f _ _ (by unfold suQ; omega))
      rw [Su_noteNeeds_l6, N1.2.2.1]
      refine ie (nI_ge (by omega) (by omega)) (ie (nI_ge (b := 256) (by omega) (by omega)) (Sc_dress_k N1.1 N1.2.1 (by omega) n8 W.2.2.1 W.2.2.2.1 (by omega) (fun I1 f1 hh => ?_)))
      have hh : ∀ w, w < an a → I1 21 w = nI (hat a r w) := hh
      have g1 : Fr suQ I0 I1 := f.tr (f1.mono (fun x i hx => by unfold suQ; omega))
      have N2 : CN I1 1 a := N.eq (fun j i hj => g1 _ _ (by unfold suQ; omega))
      rw [N2.1]
      refine weigh_pos (H := h) W (fun c hc => ⟨(g1 _ _ (by unfold suQ; omega)).trans (hH c hc).1, (hH c hc).2⟩) (by omega) hh (fun I4 z f4 hz => ?_)
      have g4 : Fr suQ I0 I4 := g1.tr (f4.mono (fun x i hx => by unfold suQ; omega))
      have hn4 : ned a h I4 r := fun i hi => by rw [f4 _ _ (by omega), f1 _ _ (by omega)]; exact hn i hi
      simp only [nI_1]
      refine ic (fun hc => ?_) (fun hc => ?_)
      · rw [hz] at hc
        have e : crl a h (r + 1) = crl a h r := by rw [crl, if_neg (by simp [hc])]
        have := ih (r + 1) I4 (by omega) g4 (by unfold ned; rw [e]; exact hn4)
        rw [e] at this
        exact this
      · rw [hz] at hc
        have hc : cts a h r = true := by cases e : cts a h r; exact absurd e hc; rfl
        have e : crl a h (r + 1) = crl a h r ++ [r] := by rw [crl, if_pos hc]
        have N4 : CN I4 1 a := N.eq (fun j i hj => g4 _ _ (by unfold suQ; omega))
        refine needs_k W N4 (fun w hw => (f4 _ _ (by omega)).trans (hh w hw)) ⟨vin (by omega) (by omega), ?_⟩
        rw [nx_nI (by omega)]
        have := ih (r + 1) (up2 I4 42 (crl a h r).length (nI (mk4 (nsd a r) (an a)))) (by omega) (g4.up (by unfold suQ; omega)) (by
          unfold ned
          rw [e]
          intro i hi
          rw [List.length_append, List.length_singleton] at hi
          rw [up2_get]
          by_cases ei : i = (crl a h r).length
          · rw [if_pos ⟨rfl, ei⟩, ei]; simp
          · rw [if_neg (by omega), List.getD_eq_getElem?_getD, List.getElem?_append_left (by omega), ← List.getD_eq_getElem?_getD]
            exact hn4 i (by omega))
        rw [e, List.length_append, List.length_singleton] at this
        exact this
  exact ⟨aq a ^ an a + 1, key (aq a ^ an a) 0 I0 (by omega) Fr.rf (fun i hi => by unfold crl at hi; simp at hi)⟩
/-- the wearers' constants, the book of wins by how many are right -/
def wbr (I : HI) (n lw k : Nat) : Prop := ∀ m, m ≤ n → I 43 m = b01 (wonB lw k n m (decide (m = n)))
theorem won_by {I : HI} {a : AN} {h : Nat → Nat} {lw k : Nat} {t : Nat → Nat} (W : WF a) (N : CN I 1 a) (r256 : aq a ^ an a ≤ 256) (hn : ned a h I (aq a ^ an a)) (hb : wbr I (an a) lw k) (ht : ∀ w, w < an a → I 41 w = nI (t w)) (tq : ∀ w, t w < aq a) {Q : Int32 → Prop} (hQ : Q (nI (sval a h lw k t))) : Su_rowsWonByTried I 1 (nI (crl a h (aq a ^ an a)).length) Q := by
  have n8 := W.2.1
  have q4 := W.2.2.2.1
  have hl := crl_le a h (aq a ^ an a)
  have t4 : ∀ w, t w < 4 := fun w => by have := tq w; omega
  have s4 : ∀ r w, nsd a r w < 4 := fun r w => by have := nsd_lt W r w; omega
  have p32 : 2 ^ (4 * an a) ≤ 2 ^ 32 := Nat.pow_le_pow_right (by decide) (by omega)
  have cntk : ∀ d i, i + d = (crl a h (aq a ^ an a)).length → Su_rowsWonByTried_l43 I 1 (nI (crl a h (aq a ^ an a)).length) (nI (mk4 t (an a))) Q (d + 1) (nI (cnt (fun i => svw a lw k t ((crl a h (aq a ^ an a)).getD i 0)) i)) (nI i) := by
    intro d
    induction d with
    | zero =>
      intro i hi
      have : i = (crl a h (aq a ^ an a)).length := by omega
      subst this
      rw [Su_rowsWonByTried_l43, crl_cnt]
      exact it (nI_le (Nat.le_refl _) (by omega)) hQ
    | succ d ih =>
      intro i hi
      have ih := ih (i + 1) (by omega)
      rw [cnt_succ] at ih
      rw [Su_rowsWonByTried_l43, nx_nI (by omega), hn i (by omega), nAnd]
      simp only [nI_1]
      have lt := mk4_lt (s4 ((crl a h (aq a ^ an a)).getD i 0)) (an a)
      refine ie (nI_ge (by omega) (by omega)) ⟨vin (by omega) (by omega), Jd_bit32 (Nat.lt_of_le_of_lt Nat.and_le_left (by omega)) ?_⟩
      rw [pop_mk4 (s4 _) t4 n8]
      have e : cnt (fun w => decide (nsd a ((crl a h (aq a ^ an a)).getD i 0) w = t w)) (an a) = sct a t ((crl a h (aq a ^ an a)).getD i 0) := rfl
      have le : sct a t ((crl a h (aq a ^ an a)).getD i 0) ≤ an a := cnt_le _ _
      rw [e, nx_nI (by omega), hb _ le]
      refine ⟨vin (by omega) (by omega), ?_⟩
      show if b01 (svw a lw k t ((crl a h (aq a ^ an a)).getD i 0)) = 0 then _ else _
      cases hv : svw a lw k t ((crl a h (aq a ^ an a)).getD i 0) with
      | false => rw [hv, if_neg (by simp)] at ih; exact it rfl ih
      | true => rw [hv, if_pos rfl] at ih; exact ie (by decide) ih
  have key : ∀ d w, w + d = an a → Su_rowsWonByTried_l5 I 1 (nI (crl a h (aq a ^ an a)).length) Q (d + 1) (nI (mk4 t w)) (nI w) := by
    intro d
    induction d with
    | zero =>
      intro w hw
      have : w = an a := by omega
      subst this
      rw [Su_rowsWonByTried_l5, N.1]
      exact it (nI_le (Nat.le_refl _) (by omega)) ⟨(crl a h (aq a ^ an a)).length + 1, cntk _ 0 (by omega)⟩
    | succ d ih =>
      intro w hw
      have := t4 w
      rw [Su_rowsWonByTried_l5, N.1, nx_nI (by omega), ht w (by omega), show (4 : Int32) = nI 4 from rfl, nM, nI_add, nShl1 _ (by omega), nOr, nI_1]
      exact ie (nI_ge (by omega) (by omega)) ⟨vin (by omega) (by omega), ih (w + 1) (by omega)⟩
  exact ⟨an a + 1, key (an a) 0 (by omega)⟩
theorem advance_k {I0 : HI} {a : AN} {t : Nat → Nat} (W : WF a) (N : CN I0 1 a) (ht : ∀ w, w < an a → I0 41 w = nI (t w)) (tq : ∀ w, w < an a → t w < aq a) {Q : HI → Prop} (hQ : ∀ I, Fr (fun b _ => b = 41) I0 I → (∀ w, w < an a → I 41 w = nI (tad (aq a) (an a) t w)) → Q I) : Su_advance I0 1 Q := by
  have n8 := W.2.1
  have n1 := W.1
  have q2 := W.2.2.1
  have q4 := W.2.2.2.1
  have key : ∀ j I t, j ≤ an a → Fr (fun b _ => b = 41) I0 I → (∀ w, w < an a → I 41 w = nI (t w)) → (∀ w, w < an a → t w < aq a) → (∀ I', Fr (fun b _ => b = 41) I0 I' → (∀ w, w < an a → I' 41 w = nI (tad (aq a) j t w)) → Q I') → ∀ z, z = nI j + (-1) → Su_advance_l7 1 Q (j + 1) I z := by
    intro j
    induction j with
    | zero =>
      intro I t hj f h tq hQ z hz
      have hz : z = -1 := hz
      rw [hz, Su_advance_l7]
      unfold Su_advance_b39
      exact it (by decide) (it (by decide) (hQ I f h))
    | succ j ih =>
      intro I t hj f h tq hQ z hz
      rw [nDec (by omega), Nat.add_sub_cancel] at hz
      have tj := tq j (by omega)
      rw [tad] at hQ
      rw [hz, Su_advance_l7, nx_nI (by omega), h j (by omega), f _ _ (by omega), N.2.1, show (nI (aq a) - 1 : Int32) = nI (aq a - 1) from by rw [nlit1, nS (by omega)]]
      have v : vp_in (nI j) 8 := vin (by omega) (by omega)
      refine ie (nI_pos (by omega)) ⟨v, ic (fun hc => ⟨v, ?_⟩) (fun hc => ?_)⟩
      · rw [nI_eq (by omega) (by omega)] at hc
        rw [if_pos hc] at hQ
        have h10 := ih (up2 I 41 j 0) (upn t j 0) (by omega) (f.up rfl) (fun w hw => by
          rw [up2_get]
          by_cases e : w = j
          · rw [if_pos ⟨rfl, e⟩, e, upn_same]; rfl
          · rw [if_neg (by omega), upn_ne _ _ e]; exact h w hw) (fun w hw => by
          by_cases e : w = j
          · rw [e, upn_same]; omega
          · rw [upn_ne _ _ e]; exact tq w hw) hQ
        generalize nI j + (-1) = zz at h10 ⊢
        exact h10 zz rfl
      · rw [nI_eq (by omega) (by omega)] at hc
        rw [if_neg hc] at hQ
        unfold Su_advance_b39
        rw [nx_nI (by omega), h j (by omega), nI_1]
        refine ie (nI_pos (by omega)) ⟨v, v, hQ _ (f.up rfl) (fun w hw => ?_)⟩
        rw [up2_get]
        by_cases e : w = j
        · rw [if_pos ⟨rfl, e⟩, e, upn_same]
        · rw [if_neg (by omega), upn_ne _ _ e]; exact h w hw
  unfold Su_advance
  refine ⟨an a + 1, key (an a) I0 t (Nat.le_refl _) Fr.rf ht tq hQ _ ?_⟩
  rw [N.1, nDec n1, nlit1, nS n1]
theorem tad_lt {q : Nat} (h2 : 2 ≤ q) : ∀ n (t : Nat → Nat), (∀ w, t w < q) → ∀ w, tad q n t w < q
  | 0, t, ht, w => ht w
  | n + 1, t, ht, w => by
    rw [tad]
    split
    · exact tad_lt h2 n _ (fun w => by unfold upn; split; omega; exact ht w) w
    · rename_i hc
      unfold upn
      split
      · have := ht n; omega
      · exact ht w
theorem enc_lt {v : Nat} {o : Option Nat} (hv : v < 2 ^ 31) (ho : ∀ x, o = some x → x < 2 ^ 31) : nI v ≤ enc o ↔ bet o v = false := by
  cases o with
  | none =>
    constructor
    · intro q
      have q : nI v ≤ -1 := q
      rw [Int32.le_iff_toInt_le, nI_toInt hv] at q
      have : (-1 : Int32).toInt = -1 := by decide
      omega
    · intro q; cases q
  | some x =>
    have hx := ho x rfl
    show nI v ≤ nI x ↔ decide (x < v) = false
    rw [nI_leI hv hx]
    simp
theorem seek_87 {I0 : HI} {a : AN} {h : Nat → Nat} {lw k : Nat} (W : WF a) (N : CN I0 1 a) (r256 : aq a ^ an a ≤ 256) (hn : ned a h I0 (aq a ^ an a)) (hb : wbr I0 (an a) lw k) {Q : Int32 → HI → Prop} (hQ : ∀ I, Fr (fun b _ => b = 40 ∨ b = 41) I0 I → (∀ w, w < an a → I 40 w = nI (tc (an a) (aq a) (sbs (fun c => sval a h lw k (tc (an a) (aq a) c)) (aq a ^ an a) 0 none 0).2 w)) → Q (enc (sbs (fun c => sval a h lw k (tc (an a) (aq a) c)) (aq a ^ an a) 0 none 0).1) I) :
    ∀ d c o b I, c + d = aq a ^ an a → sbs (fun c => sval a h lw k (tc (an a) (aq a) c)) d c o b = sbs (fun c => sval a h lw k (tc (an a) (aq a) c)) (aq a ^ an a) 0 none 0 → (c = 0 ∨ o ≠ none) → (∀ x, o = some x → x ≤ 256) → Fr (fun b _ => b = 40 ∨ b = 41) I0 I → (∀ w, w < an a → I 41 w = nI (tc (an a) (aq a) c w)) → (o ≠ none → ∀ w, w < an a → I 40 w = nI (tc (an a) (aq a) b w)) → Su_seek_l87 1 20 (nI (crl a h (aq a ^ an a)).length) Q (d + 1) I (enc o) (nI c) := by
  have n8 := W.2.1
  have n1 := W.1
  have q2 := W.2.2.1
  have q4 := W.2.2.2.1
  have p1 : 1 ≤ aq a ^ an a := Nat.pow_pos (by omega)
  intro d
  induction d with
  | zero =>
    intro c o b I hc hs ho hx f h1 h0
    rw [Su_seek_l87, f _ _ (by omega), N.2.2.1]
    rw [← hs] at hQ
    have ho : o ≠ none := by
      rcases ho with q | q
      · omega
      · exact q
    exact it (nI_le (by omega) (by omega)) (hQ I f (h0 ho))
  | succ d ih =>
    intro c o b I hc hs ho hx f h1 h0
    have N1 : CN I 1 a := N.eq (fun j i hj => f _ _ (by omega))
    have hn1 : ned a h I (aq a ^ an a) := fun i hi => (f _ _ (by omega)).trans (hn i hi)
    have hb1 : wbr I (an a) lw k := fun m hm => (f _ _ (by omega)).trans (hb m hm)
    have vle : sval a h lw k (tc (an a) (aq a) c) ≤ 256 := Nat.le_trans (cnt_le _ _) r256
    rw [Su_seek_l87, N1.2.2.1]
    rw [sbs] at hs
    refine ie (nI_ge (by omega) (by omega)) (won_by W N1 r256 hn1 hb1 h1 (fun w => tc_lt q2) ?_)
    simp only [nI_1]
    have nxt : ∀ w, w < an a → tad (aq a) (an a) (tc (an a) (aq a) c) w = tc (an a) (aq a) (c + 1) w := fun w hw => tad_k q2 q4 n1 n8 r256 (by omega) hw
    refine ic (fun hc2 => ?_) (fun hc2 => ?_)
    · rw [enc_lt (by omega) (fun x e => by have := hx x e; omega)] at hc2
      rw [if_neg (by rw [hc2]; decide)] at hs
      have ho : o ≠ none := fun e => by rw [e] at hc2; cases hc2
      refine advance_k W N1 h1 (fun w _ => tc_lt q2) (fun I8 f8 h8 => ih (c + 1) o b I8 (by omega) hs (Or.inr ho) hx (f.tr (f8.mono (fun b i hb => Or.inr hb))) (fun w hw => by rw [h8 w hw, nxt w hw]) (fun ho w hw => ?_))
      rw [f8 _ _ (by omega)]; exact h0 ho w hw
    · rw [enc_lt (by omega) (fun x e => by have := hx x e; omega)] at hc2
      have hc2 : bet o (sval a h lw k (tc (an a) (aq a) c)) = true := by cases e : bet o (sval a h lw k (tc (an a) (aq a) c)); exact absurd e hc2; rfl
      rw [if_pos hc2] at hs
      have fc : Fr (fun b _ => b = 40) I (cp2 I 41 0 40 0 8) := fun b i hb => by rw [cp2_ne hb]
      have c40 : ∀ w, w < an a → (cp2 I 41 0 40 0 8) 40 w = nI (tc (an a) (aq a) c w) := fun w hw => by rw [cp2_in (by omega)]; exact h1 w hw
      have N2 : CN (cp2 I 41 0 40 0 8) 1 a := N1.eq (fun j i hj => fc _ _ (by omega))
      refine advance_k W N2 (fun w hw => (fc _ _ (by omega)).trans (h1 w hw)) (fun w _ => tc_lt q2) (fun I8 f8 h8 => ih (c + 1) (some _) c I8 (by omega) hs (Or.inr (by simp)) (fun x e => by cases e; exact vle) ((f.tr (fc.mono (fun b i hb => Or.inl hb))).tr (f8.mono (fun b i hb => Or.inr hb))) (fun w hw => by rw [h8 w hw, nxt w hw]) (fun _ w hw => ?_))
      rw [f8 _ _ (by omega)]; exact c40 w hw
theorem fillI_k {I0 : HI} {r n : Nat} (hn : n < 2 ^ 31) {Q : HI → Prop} (hQ : ∀ I, Fr (fun b _ => b = r) I0 I → (∀ i, i < n → I r i = 0) → Q I) : Jd_fillI I0 r n (0 : Int32) Q := by
  have key : ∀ d i I, i + d = n → Fr (fun b _ => b = r) I0 I → (∀ k, k < i → I r k = 0) → Jd_fillI_l5 r n 0 (Int32.ofNat n) Q (d + 1) I (nI i) := by
    intro d
    induction d with
    | zero =>
      intro i I hi f h
      rw [Jd_fillI_l5]
      exact it (nI_le (b := i) (a := n) (by omega) (by omega)) (hQ I f (fun k hk => h k (by omega)))
    | succ d ih =>
      intro i I hi f h
      rw [Jd_fillI_l5, nx_nI (by omega), nI_1]
      refine ie (nI_ge (b := n) (by omega) (by omega)) ⟨vin (by omega) (by omega), ih (i + 1) _ (by omega) (f.up rfl) (fun k hk => ?_)⟩
      rw [up2_get]
      by_cases e : k = i
      · rw [if_pos ⟨rfl, e⟩]
      · rw [if_neg (by omega)]; exact h k (by omega)
  exact ⟨n + 1, key n 0 I0 (by omega) Fr.rf (fun k hk => by omega)⟩
theorem nar_b : ∀ b : Bool, vp_nar .boolean (b01 b) = b01 b := by decide
theorem Su_seek_k {I0 : HI} {a : AN} {h : Nat → Nat} {lw k : Nat} (W : WF a) (N : CN I0 1 a) (r256 : aq a ^ an a ≤ 256) (hH : ∀ c, c < 4 → I0 24 c = nI (h c) ∧ h c ≤ 9) (e4 : I0 23 1 = nI lw) (e5 : I0 23 2 = nI k) (l3 : lw ≤ 3) (k8 : k ≤ 8) {Q : Int32 → HI → Prop} (hQ : ∀ I, Fr suQ I0 I → I 39 1 = nI (an a) → (∀ w, w < an a → I 40 w = nI (tc (an a) (aq a) (sbs (fun c => sval a h lw k (tc (an a) (aq a) c)) (aq a ^ an a) 0 none 0).2 w)) → Q (enc (sbs (fun c => sval a h lw k (tc (an a) (aq a) c)) (aq a ^ an a) 0 none 0).1) I) : Su_seek I0 1 20 Q := by
  have n8 := W.2.1
  have n1 := W.1
  unfold Su_seek
  refine note_k W N r256 hH (fun I1 f1 hn => ?_)
  have key : ∀ d m I, m + d = an a + 1 → Fr suQ I0 I → ned a h I (aq a ^ an a) → (∀ j, j < m → I 43 j = b01 (wonB lw k (an a) j (decide (j = an a)))) → Su_seek_l12 1 20 (nI (crl a h (aq a ^ an a)).length) Q (d + 1) I (nI m) := by
    intro d
    induction d with
    | zero =>
      intro m I hm f hn h43
      have N1 : CN I 1 a := N.eq (fun j i hj => f _ _ (by unfold suQ; omega))
      rw [Su_seek_l12, N1.1]
      refine it (nI_lt (by omega) (by omega)) (fillI_k (by omega) (fun I4 f4 z4 => ?_))
      have g4 : Fr (fun b i => b = 41 ∨ b = 39 ∧ i = 1) I I4 := (Fr.up (P := fun b i => b = 41 ∨ b = 39 ∧ i = 1) Fr.rf (Or.inr ⟨rfl, rfl⟩)).tr (f4.mono (fun b i hb => Or.inl hb))
      have N4 : CN I4 1 a := N1.eq (fun j i hj => g4 _ _ (by omega))
      refine ⟨aq a ^ an a + 1, seek_87 (h := h) (lw := lw) (k := k) W N4 r256 (fun i hi => (g4 _ _ (by omega)).trans (hn i hi)) (fun m hm => (g4 _ _ (by omega)).trans (h43 m (by omega))) (fun I' f' h40 => hQ I' ((f.tr (g4.mono (fun b i hb => by unfold suQ; omega))).tr (f'.mono (fun b i hb => by unfold suQ; omega))) ?_ h40) (aq a ^ an a) 0 none 0 I4 (by omega) rfl (Or.inl rfl) (fun x e => by cases e) Fr.rf (fun w hw => ?_) (fun q => absurd rfl q)⟩
      · rw [f' _ _ (by omega), f4 _ _ (by omega)]; exact up2_same _ _ _ _
      · rw [tc_0]; exact z4 w (by omega)
    | succ d ih =>
      intro m I hm f hn h43
      have N1 : CN I 1 a := N.eq (fun j i hj => f _ _ (by unfold suQ; omega))
      obtain ⟨g1, g2, g3⟩ := rgt_k (an a) (by omega) m (by omega) (by omega)
      have pm : 2 ^ m ≤ 2 ^ an a := Nat.pow_le_pow_right (by decide) (by omega)
      have pm1 : 1 ≤ 2 ^ m := Nat.one_le_two_pow
      rw [Su_seek_l12, N1.1, nShl1 m (by omega), nShl1 (an a) (by omega)]
      rw [show (nI (2 ^ m) - 1 : Int32) = nI (2 ^ m - 1) from by rw [nlit1, nS pm1], show (nI (2 ^ an a) - 1 : Int32) = nI (2 ^ an a - 1) from by rw [nlit1, nS Nat.one_le_two_pow], g1]
      refine ie (nI_nlt (by omega) (by omega)) (Jud_isWon_k (lw := lw) (k := k) ((f _ _ (by unfold suQ; omega)).trans e4) ((f _ _ (by unfold suQ; omega)).trans e5) l3 k8 n8 (by omega) (by omega) ⟨vin (by omega) (by omega), ?_⟩)
      rw [g2, g3, nar_b, nx_nI (by omega), nI_1]
      refine ih (m + 1) _ (by omega) (f.up (by unfold suQ; omega)) (fun i hi => by rw [up2_get, if_neg (by omega)]; exact hn i hi) (fun j hj => ?_)
      rw [up2_get]
      by_cases e : j = m
      · rw [if_pos ⟨rfl, e⟩, e]
      · rw [if_neg (by omega)]; exact h43 j (by omega)
  exact ⟨an a + 1 + 1, key (an a + 1) 0 I1 (by omega) f1 hn (fun j hj => by omega)⟩
theorem digits_k {q v : Nat} (h2 : 2 ≤ q) (h4 : q ≤ 4) (hv : v < 2 ^ 31) {Q : Int32 → Prop} (hQ : Q (nI (dsm q 8 v))) : Su_sumOfDigits (nI v) (nI q) Q := by
  have key : ∀ d i s v, i + d = 8 → v < 2 ^ 31 → Q (nI (s + dsm q d v)) → Su_sumOfDigits_l7 (nI q) Q (d + 1) (nI s) (nI v) (nI i) := by
    intro d
    induction d with
    | zero =>
      intro i s v hi hv h
      rw [Su_sumOfDigits_l7, nlit8]
      exact it (nI_le (by omega) (by omega)) h
    | succ d ih =>
      intro i s v hi hv h
      rw [dsm, ← Nat.add_assoc] at h
      have hd : v / q < 2 ^ 31 := Nat.lt_of_le_of_lt (Nat.div_le_self _ _) hv
      rw [Su_sumOfDigits_l7, nlit8, nRem hv (by omega), nDiv hv (by omega), nI_add, nI_1]
      exact ie (nI_ge (by omega) (by omega)) ⟨nI_ne0 (by omega) (by omega), nI_ne0 (by omega) (by omega), ih (i + 1) _ _ (by omega) hd h⟩
  refine ⟨9, key 8 0 0 v (by omega) hv ?_⟩
  rw [Nat.zero_add]; exact hQ
theorem sut_lt {n q b w v : Nat} (h2 : 2 ≤ q) : sut n q b w v < q := fmod_lt h2
theorem Su_settle_k {own : Nat → Nat} {I0 : HI} {T0 F : HR} {L : HL} {a : AN} {b : Nat} (W : WF a) (N : CN I0 1 a) (C : CT I0 T0 F L own 1 a) (o56 : ∀ x, x < 56 → own x = 0) (hv : ∀ w, w < an a → avw a w ≤ 1024) (h40 : ∀ w, w < an a → I0 40 w = nI (tc (an a) (aq a) b w)) {Q : HI → HR → Prop} (hQ : ∀ I T, Fr (nP 1) I0 I → (∀ b i, b ≠ 7 → T b i = T0 b i) → CN I 1 (aAll a (sut (an a) (aq a) b) (an a)) → CT I T F L own 1 (aAll a (sut (an a) (aq a) b) (an a)) → Q I T) : Su_settle I0 T0 L 1 Q := by
  have n8 := W.2.1
  have q2 := W.2.2.1
  have q4 := W.2.2.2.1
  have WA := aAll_WF (ts := sut (an a) (aq a) b) W hv (fun w _ v _ => Nat.le_of_lt (sut_lt q2))
  have key : ∀ d i I T, i + d = an a → Fr (nP 1) I0 I → (∀ b i, b ≠ 7 → T b i = T0 b i) → CN I 1 (aAll a (sut (an a) (aq a) b) i) → CT I T F L own 1 (aAll a (sut (an a) (aq a) b) i) → Su_settle_l2 L 1 Q (d + 1) I T (nI i) := by
    intro d
    induction d with
    | zero =>
      intro i I T hi f ft N1 C1
      have : i = an a := by omega
      subst this
      rw [Su_settle_l2, N1.1]
      exact it (nI_le (Nat.le_refl _) (by omega)) (hQ I T f ft N1 C1)
    | succ d ih =>
      intro i I T hi f ft N1 C1
      have hvi := hv i (by omega)
      rw [Su_settle_l2, show I 1 0 = nI (an a) from N1.1]
      refine ie (nI_ge (show i < an a by omega) (by omega)) (startTable_k (WA i (by omega)) N1 C1 o56 (show i < an a by omega) hvi (fun I1 f1 N2 C2 => ⟨avw a i + 1, ?_⟩))
      have inner : ∀ e v J, v + e = avw a i → Fr (fun x k => x = 1 + 7 ∧ 1024 * i ≤ k ∧ k < 1024 * i + 1024) I1 J → (∀ k, k < 8192 → byt (J (1 + 7) k)) → (∀ k, k < v → J (1 + 7) (1024 * i + k) = nI (sut (an a) (aq a) b i k)) → Su_settle_l17 (up2 T 7 i none) L 1 (nI i) (fun I' T' x2' => Su_settle_l2 L 1 Q (d + 1) I' T' x2') Q (e + 1) J (nI v) := by
        intro e
        induction e with
        | zero =>
          intro v J he fJ hb ht
          have e5 : J (1 + 4) i = nI (avw a i) := by
            rw [fJ _ _ (by omega), N2.2.2.2.2.2.2.1 i (show i < an a by omega)]; exact if_pos hvi
          rw [Su_settle_l17, nx_nI (by omega), e5, nI_1]
          refine ⟨vin (by omega) (by omega), it (nI_le (by omega) (by omega)) ?_⟩
          obtain ⟨N3, C3⟩ := settled_k (t := sut (an a) (aq a) b i) (WA i (by omega)) N2 C2 o56 (show i < an a by omega) hvi fJ hb (fun v' hv' => ht v' (by have hv' : v' < avw a i := hv'; omega))
          rw [aAll_s] at N3 C3
          refine ih (i + 1) J _ (by omega) ((f.tr (f1.mono ctP_n)).tr (fJ.mono (fun x k hx => by unfold nP; omega))) (fun x k hx => by rw [up2_get, if_neg (by omega)]; exact ft x k hx) N3 C3
        | succ e ihe =>
          intro v J he fJ hb ht
          have e5 : J (1 + 4) i = nI (avw a i) := by
            rw [fJ _ _ (by omega), N2.2.2.2.2.2.2.1 i (show i < an a by omega)]; exact if_pos hvi
          have e40 : J 40 i = nI (tc (an a) (aq a) b i) := by
            rw [fJ _ _ (by omega), f1 _ _ (by unfold ctP; omega), f _ _ (by unfold nP; omega)]; exact h40 i (by omega)
          have e1 : J 1 1 = nI (aq a) := by rw [fJ _ _ (by omega)]; exact N2.2.1
          have sl := sut_lt (n := an a) (b := b) (w := i) (v := v) q2
          rw [Su_settle_l17, nx_nI (by omega), e5, e1, e40]
          refine ⟨vin (by omega) (by omega), ie (nI_ge (by omega) (by omega)) ⟨vin (by omega) (by omega), digits_k q2 q4 (by omega) (Jd_floor_k q2 q4 (setGuess_k (g := sut (an a) (aq a) b i v) (by omega) (by omega) (by omega) ?_))⟩⟩
          rw [nI_1]
          refine ihe (v + 1) _ (by omega) (fJ.up ⟨rfl, by omega, by omega⟩) (fun k hk => ?_) (fun k hk => ?_)
          · rw [up2_get]; split
            · exact (byt_k _ (by omega)).1
            · exact hb k hk
          · rw [up2_get]
            by_cases ek : k = v
            · rw [if_pos ⟨rfl, by omega⟩, ek]
            · rw [if_neg (by omega)]; exact ht k (by omega)
      exact inner (avw a i) 0 I1 (by omega) Fr.rf N2.2.2.2.2.2.2.2.2.1 (fun k hk => by omega)
  exact ⟨an a + 1, key (an a) 0 I0 T0 (by omega) Fr.rf (fun _ _ _ => rfl) N C⟩
