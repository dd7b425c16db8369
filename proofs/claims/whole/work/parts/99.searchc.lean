/-! search: the class's side -/
theorem cellOf_k {I : HI} {a : AN} {r w : Nat} (W : WF a) (h : ato a) (N : CN I 1 a) (hh : ∀ w, w < an a → I 21 w = nI (hat a r w)) (hw : w < an a) {Q : Int32 → Prop} (hQ : Q (nI (cel a r w))) : Se_cellOf I 1 20 (nI w) Q := by
  have n8 := W.2.1
  unfold Se_cellOf
  refine Sc_viewOf_k (h := hat a r) (g := z0) W ⟨N, hh, fun k hk hr => ?_⟩ hw ?_
  · rw [(h k hk).1, (h w hw).1] at hr; omega
  · rw [nlit1024, nM, nI_add, Nat.mul_comm w]; exact hQ
theorem someone_k {I : HI} {a : AN} {r : Nat} {st : Nat → Nat} (W : WF a) (h : ato a) (N : CN I 1 a) (hh : ∀ w, w < an a → I 21 w = nI (hat a r w)) (hs : ∀ c, c < 8192 → I 36 c = nI (st c)) (sl : ∀ c, st c ≤ aq a) {Q : Int32 → Prop} (hQ : Q (b01 (smr a st r))) : Se_someoneIsRight I 1 20 Q := by
  have n8 := W.2.1
  have q4 := W.2.2.2.1
  have key : ∀ d w, w + d = an a → (∀ w', w' < w → st (cel a r w') ≠ hat a r w' + 1) → Se_someoneIsRight_l2 I 1 20 Q (d + 1) (nI w) := by
    intro d
    induction d with
    | zero =>
      intro w hw hno
      rw [Se_someoneIsRight_l2, N.1]
      have e : smr a st r = false := by
        cases e : smr a st r with
        | false => rfl
        | true =>
          obtain ⟨w', h1, h2⟩ := smr_iff.mp e
          exact absurd h2 (hno w' (by omega))
      rw [e] at hQ
      exact it (nI_le (by omega) (by omega)) hQ
    | succ d ih =>
      intro w hw hno
      have c2 := (cel_lt W h (r := r) (w := w) (by omega)).2
      have s1 := sl (cel a r w)
      have h1 := hat_lt W r w
      rw [Se_someoneIsRight_l2, N.1]
      refine ie (nI_ge (by omega) (by omega)) (cellOf_k W h N hh (by omega) ⟨vin c2 (by omega), vin (by omega) (by omega), ?_⟩)
      rw [nx_nI (by omega), hs _ c2, nx_nI (by omega), show I (20 + 1) w = nI (hat a r w) from hh w (by omega)]
      simp only [nI_1]
      refine ic (fun hc => ?_) (fun hc => ?_)
      · rw [nI_eq (by omega) (by omega)] at hc
        rw [smr_iff.mpr ⟨w, by omega, hc⟩] at hQ
        exact hQ
      · rw [nI_eq (by omega) (by omega)] at hc
        refine ih (w + 1) (by omega) (fun w' hw' => ?_)
        by_cases e : w' = w
        · rw [e]; exact hc
        · exact hno w' (by omega)
  exact ⟨an a + 1, key (an a) 0 (by omega) (fun w' hw' => by omega)⟩
theorem rowNot_k {I0 : HI} {a : AN} {r : Nat} {st : Nat → Nat} (W : WF a) (h : ato a) (N : CN I0 1 a) (hs : ∀ c, c < 8192 → I0 36 c = nI (st c)) (sl : ∀ c, st c ≤ aq a) (hr : r ≤ aq a ^ an a) {Q : Int32 → HI → Prop} (hQ : ∀ I, Fr (fun b _ => b = 21) I0 I → Q (nI (rnr a st (aq a ^ an a - r) r)) I) : Se_rowNotRight I0 1 20 (nI r) Q := by
  have n8 := W.2.1
  have r5 := W.2.2.2.2.1
  have key : ∀ d r I, r + d = aq a ^ an a → rnr a st d r = rnr a st d r → Fr (fun b _ => b = 21) I0 I → (∀ w, w < an a → I 21 w = nI (hat a r w)) → (∀ I, Fr (fun b _ => b = 21) I0 I → Q (nI (rnr a st d r)) I) → Se_rowNotRight_l9 1 20 Q (d + 1) I (nI r) := by
    intro d
    induction d with
    | zero =>
      intro r I hr _ f hh hQ
      rw [Se_rowNotRight_l9, f 1 _ (by omega), N.2.2.1]
      have e : r = aq a ^ an a := by omega
      subst e
      exact it (nI_le (Nat.le_refl _) (by omega)) (hQ I f)
    | succ d ih =>
      intro r I hr _ f hh hQ
      have N1 : CN I 1 a := N.eq (fun j i hj => f _ _ (by omega))
      rw [Se_rowNotRight_l9, N1.2.2.1]
      rw [rnr] at hQ
      refine ie (nI_ge (by omega) (by omega)) (someone_k (st := st) W h N1 hh (fun c hc => (f _ _ (by omega)).trans (hs c hc)) sl ?_)
      cases e : smr a st r with
      | false =>
        simp only [e, Bool.false_eq_true, if_false] at hQ
        exact it rfl (hQ I f)
      | true =>
        simp only [e, if_true] at hQ
        refine ie (by decide) (Sc_next_k W N1 hh (fun I5 f5 h5 => ?_))
        rw [nI_1]
        exact ih (r + 1) I5 (by omega) rfl (f.tr f5) h5 hQ
  unfold Se_rowNotRight
  refine Sc_dress_k N.1 N.2.1 (by omega) n8 W.2.2.1 W.2.2.2.1 (by omega) (fun I1 f1 hh => ⟨aq a ^ an a - r + 1, key (aq a ^ an a - r) r I1 (by omega) rfl f1 hh hQ⟩)
theorem unset_k {I : HI} {a : AN} {r : Nat} {st : Nat → Nat} (W : WF a) (h : ato a) (N : CN I 1 a) (hh : ∀ w, w < an a → I 21 w = nI (hat a r w)) (hs : ∀ c, c < 8192 → I 36 c = nI (st c)) (sl : ∀ c, st c ≤ aq a) {frm : Nat} (hf : frm ≤ an a) {Q : Int32 → Prop} (hQ : Q (enc (uns a st r (an a - frm) frm))) : Se_unsettledWearer I 1 20 (nI frm) Q := by
  have n8 := W.2.1
  have q4 := W.2.2.2.1
  have key : ∀ d w, w + d = an a → Q (enc (uns a st r d w)) → Se_unsettledWearer_l3 I 1 20 Q (d + 1) (nI w) := by
    intro d
    induction d with
    | zero =>
      intro w hw hQ
      rw [Se_unsettledWearer_l3, N.1]
      exact it (nI_le (by omega) (by omega)) hQ
    | succ d ih =>
      intro w hw hQ
      have c2 := (cel_lt W h (r := r) (w := w) (by omega)).2
      have s1 := sl (cel a r w)
      rw [Se_unsettledWearer_l3, N.1]
      rw [uns] at hQ
      refine ie (nI_ge (by omega) (by omega)) (cellOf_k W h N hh (by omega) ⟨vin c2 (by omega), ?_⟩)
      rw [nx_nI (by omega), hs _ c2, nI_1]
      refine ic (fun hc => ?_) (fun hc => ?_)
      · rw [nlit0, nI_eq (by omega) (by omega)] at hc
        rw [if_pos hc] at hQ; exact hQ
      · rw [nlit0, nI_eq (by omega) (by omega)] at hc
        rw [if_neg hc] at hQ; exact ih (w + 1) (by omega) hQ
  exact ⟨an a - frm + 1, key (an a - frm) frm (by omega) hQ⟩
/-- the stack of settled guesses in two rows of cells -/
def stk2 (I : HI) (x y : Nat) : List (Nat × Nat) → Prop
  | [] => True
  | (r, w) :: sk => I x sk.length = nI r ∧ I y sk.length = nI w ∧ stk2 I x y sk
theorem stk2_fr {I I' : HI} {x y : Nat} : ∀ (sk : List (Nat × Nat)), (∀ i, i < sk.length → I' x i = I x i ∧ I' y i = I y i) → stk2 I x y sk → stk2 I' x y sk
  | [], _, _ => trivial
  | (r, w) :: sk, h, g => ⟨(h _ (by rw [List.length_cons]; omega)).1.trans g.1, (h _ (by rw [List.length_cons]; omega)).2.trans g.2.1, stk2_fr sk (fun i hi => h i (by rw [List.length_cons]; omega)) g.2.2⟩
def seP : Nat → Nat → Prop := fun b i => b = 21 ∨ b = 36 ∨ b = 37 ∨ b = 38 ∨ b = 35 ∧ i = 0
def SeI (I : HI) (s : SS5) : Prop := (∀ c, c < 8192 → I 36 c = nI (s.1 c)) ∧ I 35 0 = nI s.2.2.2.2 ∧ stk2 I 37 38 s.2.1
theorem seek_l31 {I0 : HI} {a : AN} {lim : Nat} (W : WF a) (h : ato a) (N0 : CN I0 1 a) (hl : lim ≤ 5000) {Q : Int32 → HI → Prop} : ∀ m s x7 I, sok a lim m s → x7 + m = 2 * lim + 1 → Fr seP I0 I → SeI I s → (∀ I', Fr seP I0 I' → SeI I' (srs a lim m s).2 → Q (srs a lim m s).1 I') → Se_seek_l31 1 20 (nI lim) Q (m + 1) I (nI s.2.1.length) (nI s.2.2.1) (nI s.2.2.2.1) (nI x7) := by
  have n8 := W.2.1
  have q2 := W.2.2.1
  have q4 := W.2.2.2.1
  have r5 := W.2.2.2.2.1
  intro m
  induction m with
  | zero =>
    intro s x7 I ok hx f S hQ
    obtain ⟨k1, k2, k3, k4, k5, k6, k7, k8⟩ := ok
    omega
  | succ m ih =>
    intro s x7 I ok hx f S hQ
    obtain ⟨st, sk, row, frm, made⟩ := s
    have ok0 := ok
    obtain ⟨k1, k2, k3, k4, k5, k6, k7, k8⟩ := ok
    dsimp only at k1 k2 k3 k4 k5 k6 k7 k8
    obtain ⟨s1, s2, s3⟩ := S
    dsimp only at s1 s2 s3
    have N1 : CN I 1 a := N0.eq (fun j i hj => f _ _ (by unfold seP; omega))
    show Se_seek_l31 1 20 (nI lim) Q (m + 1 + 1) I (nI sk.length) (nI row) (nI frm) (nI x7)
    rw [Se_seek_l31, N1.2.2.1]
    rw [show ((2 : Int32) * nI lim) + 1 = nI (2 * lim + 1) from by rw [show (2 : Int32) = nI 2 from rfl, nM, nI_1]]
    refine ie (nI_nlt (by omega) (by omega)) ?_
    by_cases hr : aq a ^ an a ≤ row
    · refine it (nI_le hr (by omega)) ?_
      unfold Se_seek_b228
      rw [N1.2.2.1]
      have e : srs a lim (m + 1) (st, sk, row, frm, made) = (1, (st, sk, row, frm, made)) := by rw [srs]; exact if_pos hr
      rw [e] at hQ
      exact it (nI_le hr (by omega)) (hQ I f ⟨s1, s2, s3⟩)
    · refine ie (nI_ge (by omega) (by omega)) (Sc_dress_k N1.1 N1.2.1 (by omega) n8 q2 q4 (by omega) (fun I6 f6 hh => ?_))
      have hh : ∀ w, w < an a → I6 21 w = nI (hat a row w) := hh
      have g6 : Fr seP I0 I6 := f.tr (f6.mono (fun b i hb => by unfold seP; omega))
      have N6 : CN I6 1 a := N0.eq (fun j i hj => g6 _ _ (by unfold seP; omega))
      have t1 : ∀ c, c < 8192 → I6 36 c = nI (st c) := fun c hc => (f6 _ _ (by omega)).trans (s1 c hc)
      have t2 : I6 35 0 = nI made := (f6 _ _ (by omega)).trans s2
      have t3 : stk2 I6 37 38 sk := stk2_fr sk (fun i _ => ⟨f6 _ _ (by omega), f6 _ _ (by omega)⟩) s3
      refine unset_k (st := st) W h N6 hh t1 k1 k4 ?_
      cases e : uns a st row (an a - frm) frm with
      | none =>
        refine it rfl ?_
        cases sk with
        | nil =>
          have e2 : srs a lim (m + 1) (st, [], row, frm, made) = (0, (st, [], row, frm, made)) := by rw [srs]; dsimp only; rw [if_neg hr, e]
          rw [e2] at hQ
          exact it rfl (hQ I6 g6 ⟨t1, t2, t3⟩)
        | cons p sk =>
          obtain ⟨r, w⟩ := p
          have e2 : srs a lim (m + 1) (st, (r, w) :: sk, row, frm, made) = srs a lim m (upn st (cel a r w) 0, sk, r, w + 1, made) := by rw [srs]; dsimp only; rw [if_neg hr, e]
          rw [e2] at hQ
          have pk := k2 (r, w) (List.mem_cons_self ..)
          dsimp only at pk
          rw [List.length_cons] at k6 k7
          obtain ⟨u1, u2, u3⟩ := t3
          show if nI (sk.length + 1) = 0 then _ else _
          refine ie (nI_ne0 (by omega) (by omega)) ?_
          have ed : nI (sk.length + 1) + (-1) = nI sk.length := by rw [nDec (by omega), Nat.add_sub_cancel]
          show vp_in (nI (sk.length + 1) + (-1)) 5000 ∧ Sc_dress I6 20 1 (I6 37 (nx (nI (sk.length + 1) + (-1)))) (fun I10 => vp_in (nI (sk.length + 1) + (-1)) 5000 ∧ Se_cellOf I10 1 20 (I10 38 (nx (nI (sk.length + 1) + (-1)))) (fun a12 => vp_in a12 8192 ∧ vp_in (nI (sk.length + 1) + (-1)) 5000 ∧ Se_seek_l31 1 20 (nI lim) Q (m + 1) (up2 I10 36 (nx a12) (vp_nar .byte 0)) (nI (sk.length + 1) + (-1)) (I6 37 (nx (nI (sk.length + 1) + (-1)))) (((up2 I10 36 (nx a12) (vp_nar .byte 0)) 38 (nx (nI (sk.length + 1) + (-1)))) + 1) (nI x7 + 1)))
          rw [ed, nx_nI (by omega), u1]
          have v5 : vp_in (nI sk.length) 5000 := vin (by omega) (by omega)
          refine ⟨v5, Sc_dress_k N6.1 N6.2.1 (by omega) n8 q2 q4 (by omega) (fun I10 f10 hh10 => ⟨v5, ?_⟩)⟩
          have hh10 : ∀ w, w < an a → I10 21 w = nI (hat a r w) := hh10
          have g10 : Fr seP I0 I10 := g6.tr (f10.mono (fun b i hb => by unfold seP; omega))
          have N10 : CN I10 1 a := N0.eq (fun j i hj => g10 _ _ (by unfold seP; omega))
          have c2 := (cel_lt W h (r := r) (w := w) pk.2).2
          rw [f10 _ _ (by omega), u2]
          refine cellOf_k W h N10 hh10 pk.2 ⟨vin c2 (by omega), v5, ?_⟩
          rw [nx_nI (show cel a r w < 2 ^ 31 by omega), nar0]
          rw [show (up2 I10 36 (cel a r w) 0) 38 sk.length = nI w from by rw [up2_get, if_neg (by omega), f10 _ _ (by omega)]; exact u2, nI_1, nI_1]
          refine ih (upn st (cel a r w) 0, sk, r, w + 1, made) (x7 + 1) _ (sok_pop ok0 rfl) (by omega) (g10.up (by unfold seP; omega)) ⟨fun c hc => ?_, ?_, stk2_fr sk (fun i _ => ⟨?_, ?_⟩) u3⟩ hQ
          · dsimp only
            rw [up2_get]
            by_cases ec : c = cel a r w
            · rw [if_pos ⟨rfl, ec⟩, ec, upn_same]; rfl
            · rw [if_neg (by omega), upn_ne _ _ ec, f10 _ _ (by omega)]; exact t1 c hc
          · dsimp only; rw [up2_get, if_neg (by omega), f10 _ _ (by omega)]; exact t2
          · rw [up2_get, if_neg (by omega), f10 _ _ (by omega)]
          · rw [up2_get, if_neg (by omega), f10 _ _ (by omega)]
      | some w =>
        obtain ⟨w1, w2, w3⟩ := uns_lt _ _ _ e
        have hw : w < an a := by omega
        have hat1 := hat_lt W row w
        refine ie (nI_nm1 (n := w) (by omega)) ?_
        show if nI lim ≤ I6 35 0 then _ else _
        rw [t2]
        by_cases hm : lim ≤ made
        · have e2 : srs a lim (m + 1) (st, sk, row, frm, made) = (-2, (st, sk, row, frm, made)) := by rw [srs]; dsimp only; rw [if_neg hr, e]; dsimp only; rw [if_pos hm]
          rw [e2] at hQ
          exact it (nI_le hm (by omega)) (hQ I6 g6 ⟨t1, t2, t3⟩)
        · have e2 : srs a lim (m + 1) (st, sk, row, frm, made) = srs a lim m (upn st (cel a row w) (hat a row w + 1), (row, w) :: sk, rnr a (upn st (cel a row w) (hat a row w + 1)) (aq a ^ an a - (row + 1)) (row + 1), 0, made + 1) := by rw [srs]; dsimp only; rw [if_neg hr, e]; dsimp only; rw [if_neg hm]
          rw [e2] at hQ
          have c2 := (cel_lt W h (r := row) (w := w) hw).2
          have ok1 := sok_set W ok0 (show row < aq a ^ an a by omega) hw hm
          dsimp only at ok1
          have v5 : vp_in (nI sk.length) 5000 := vin (by omega) (by omega)
          refine ie (nI_ge (by omega) (by omega)) (it (nI_lt (b := 5000) (by omega) (by omega)) (cellOf_k W h N6 hh hw ⟨vin (by omega) (by omega), vin c2 (by omega), v5, v5, ?_⟩))
          simp only [show enc (some w) = nI w from rfl]
          rw [nx_nI (show w < 2 ^ 31 by omega), nx_nI (show cel a row w < 2 ^ 31 by omega), nx_nI (show sk.length < 2 ^ 31 by omega), show I6 (20 + 1) w = nI (hat a row w) from hh w hw]
          simp only [nI_1]
          rw [(byt_k (hat a row w + 1) (by omega)).2, (byt_k w (by omega)).2, nar_s (by omega)]
          generalize hJ : up2 (up2 (up2 I6 36 (cel a row w) (nI (hat a row w + 1))) 37 sk.length (nI row)) 38 sk.length (nI w) = J
          have fJ : Fr (fun b i => b = 36 ∧ i = cel a row w ∨ (b = 37 ∨ b = 38) ∧ i = sk.length) I6 J := by rw [← hJ]; exact ((Fr.rf.up (by omega)).up (by omega)).up (by omega)
          have j36 : J 36 (cel a row w) = nI (hat a row w + 1) := by rw [← hJ, up2_get, if_neg (by omega), up2_get, if_neg (by omega), up2_same]
          have j37 : J 37 sk.length = nI row := by rw [← hJ, up2_get, if_neg (by omega), up2_same]
          have j38 : J 38 sk.length = nI w := by rw [← hJ, up2_same]
          rw [fJ 35 0 (by omega), t2, nI_1]
          have fK : Fr (fun b i => b = 35 ∧ i = 0) J (up2 J 35 0 (nI (made + 1))) := Fr.rf.up ⟨rfl, rfl⟩
          generalize hK : up2 J 35 0 (nI (made + 1)) = K at fK
          have k35 : K 35 0 = nI (made + 1) := by rw [← hK, up2_same]
          have gK : Fr seP I0 K := (g6.tr (fJ.mono (fun b i hb => by unfold seP; omega))).tr (fK.mono (fun b i hb => by unfold seP; omega))
          have NK : CN K 1 a := N0.eq (fun j i hj => gK _ _ (by unfold seP; omega))
          have K36 : ∀ c, c < 8192 → K 36 c = nI (upn st (cel a row w) (hat a row w + 1) c) := fun c hc => by
            rw [fK _ _ (by omega)]
            by_cases ec : c = cel a row w
            · rw [ec, upn_same]; exact j36
            · rw [upn_ne _ _ ec, fJ _ _ (by omega)]; exact t1 c hc
          refine rowNot_k (st := upn st (cel a row w) (hat a row w + 1)) W h NK K36 ok1.1 (by omega) (fun I17 f17 => ?_)
          generalize upn st (cel a row w) (hat a row w + 1) = st2 at ok1 hQ K36 ⊢
          generalize rnr a st2 (aq a ^ an a - (row + 1)) (row + 1) = R at ok1 hQ ⊢
          show Se_seek_l31 1 20 (nI lim) Q (m + 1) I17 (nI (sk.length + 1)) (nI R) (nI 0) (nI (x7 + 1))
          refine ih (st2, (row, w) :: sk, R, 0, made + 1) (x7 + 1) I17 ok1 (by omega) (gK.tr (f17.mono (fun b i hb => by unfold seP; omega))) ⟨fun c hc => (f17 _ _ (by omega)).trans (K36 c hc), (f17 _ _ (by omega)).trans k35, ?_, ?_, ?_⟩ hQ
          · rw [f17 _ _ (by omega), fK _ _ (by omega)]; exact j37
          · rw [f17 _ _ (by omega), fK _ _ (by omega)]; exact j38
          · exact stk2_fr sk (fun i hi => ⟨by rw [f17 _ _ (by omega), fK _ _ (by omega), fJ _ _ (by omega)], by rw [f17 _ _ (by omega), fK _ _ (by omega), fJ _ _ (by omega)]⟩) t3
theorem fillB_k {I0 : HI} {r n : Nat} (hn : n < 2 ^ 31) {Q : HI → Prop} (hQ : ∀ I, Fr (fun b _ => b = r) I0 I → (∀ i, i < n → I r i = 0) → Q I) : Jd_fillB I0 r n (0 : Int32) Q := by
  have key : ∀ d i I, i + d = n → Fr (fun b _ => b = r) I0 I → (∀ k, k < i → I r k = 0) → Jd_fillB_l5 r n 0 (Int32.ofNat n) Q (d + 1) I (nI i) := by
    intro d
    induction d with
    | zero =>
      intro i I hi f h
      rw [Jd_fillB_l5]
      exact it (nI_le (b := i) (a := n) (by omega) (by omega)) (hQ I f (fun k hk => h k (by omega)))
    | succ d ih =>
      intro i I hi f h
      rw [Jd_fillB_l5, nx_nI (by omega), nI_1, nar0]
      refine ie (nI_ge (b := n) (by omega) (by omega)) ⟨vin (by omega) (by omega), ih (i + 1) _ (by omega) (f.up rfl) (fun k hk => ?_)⟩
      rw [up2_get]
      by_cases e : k = i
      · rw [if_pos ⟨rfl, e⟩]
      · rw [if_neg (by omega)]; exact h k (by omega)
  exact ⟨n + 1, key n 0 I0 (by omega) Fr.rf (fun k hk => by omega)⟩
def sr0 (a : AN) : SS5 := (z0, [], rnr a z0 (aq a ^ an a) 0, 0, 0)
theorem sr0_ok {a : AN} {lim : Nat} : sok a lim (2 * lim + 1) (sr0 a) := by
  obtain ⟨g1, g2, g3, g4⟩ := rnr_le (a := a) (st := z0) (aq a ^ an a) 0
  refine ⟨fun _ => Nat.zero_le _, fun p hp => (by cases hp), ?_, Nat.zero_le _, Nat.zero_le _, Nat.zero_le _, ?_, fun _ => ?_⟩
  · show rnr a z0 (aq a ^ an a) 0 ≤ _; omega
  · show 2 * (lim - 0) + 0 + 1 ≤ _; omega
  · show rnr a z0 (aq a ^ an a) 0 = aq a ^ an a ∨ _
    rcases g3 with g3 | g3
    · left; omega
    · exact Or.inr g3
def srR (a : AN) (lim : Nat) : Int32 × SS5 := srs a lim (2 * lim + 1) (sr0 a)
theorem Se_seek_k {I0 : HI} {a : AN} {lim : Nat} (W : WF a) (h : ato a) (N : CN I0 1 a) (hl : lim ≤ 5000) {Q : Int32 → HI → Prop} (hQ : ∀ I', Fr seP I0 I' → SeI I' (srR a lim).2 → Q (srR a lim).1 I') : Se_seek I0 1 20 (nI lim) Q := by
  unfold Se_seek
  refine fillB_k (by omega) (fun I1 f1 z1 => ?_)
  have f2 : Fr seP I0 (up2 I1 35 0 0) := (f1.mono (fun b i hb => by unfold seP; omega)).up (by unfold seP; omega)
  have N2 : CN (up2 I1 35 0 0) 1 a := N.eq (fun j i hj => f2 _ _ (by unfold seP; omega))
  have z2 : ∀ c, c < 8192 → (up2 I1 35 0 0) 36 c = nI (z0 c) := fun c hc => by rw [up2_get, if_neg (by omega)]; exact z1 c hc
  refine rowNot_k (r := 0) (st := z0) W h N2 z2 (fun _ => Nat.zero_le _) (Nat.zero_le _) (fun I4 f4 => ⟨2 * lim + 1 + 1, ?_⟩)
  exact seek_l31 W h N hl (2 * lim + 1) (sr0 a) 0 I4 sr0_ok (by omega) (f2.tr (f4.mono (fun b i hb => by unfold seP; omega))) ⟨fun c hc => (f4 _ _ (by omega)).trans (z2 c hc), (f4 _ _ (by omega)).trans (up2_same _ _ _ _), trivial⟩ hQ
def srt (st : Nat → Nat) (w v : Nat) : Nat := st (1024 * w + v) - 1
theorem Se_settle_k {own : Nat → Nat} {I0 : HI} {T0 F : HR} {L : HL} {a : AN} {st : Nat → Nat} (W : WF a) (N : CN I0 1 a) (C : CT I0 T0 F L own 1 a) (o56 : ∀ x, x < 56 → own x = 0) (hv : ∀ w, w < an a → avw a w ≤ 1024) (h36 : ∀ c, c < 8192 → I0 36 c = nI (st c)) (sl : ∀ c, st c ≤ aq a) {Q : HI → HR → Prop} (hQ : ∀ I T, Fr (nP 1) I0 I → (∀ b i, b ≠ 7 → T b i = T0 b i) → CN I 1 (aAll a (srt st) (an a)) → CT I T F L own 1 (aAll a (srt st) (an a)) → Q I T) : Se_settle I0 T0 L 1 Q := by
  have n8 := W.2.1
  have q2 := W.2.2.1
  have q4 := W.2.2.2.1
  have sl' : ∀ w v, srt st w v ≤ aq a := fun w v => by have := sl (1024 * w + v); unfold srt; omega
  have WA := aAll_WF (ts := srt st) W hv (fun w _ v _ => sl' w v)
  have key : ∀ d i I T, i + d = an a → Fr (nP 1) I0 I → (∀ b i, b ≠ 7 → T b i = T0 b i) → CN I 1 (aAll a (srt st) i) → CT I T F L own 1 (aAll a (srt st) i) → Se_settle_l2 L 1 Q (d + 1) I T (nI i) := by
    intro d
    induction d with
    | zero =>
      intro i I T hi f ft N1 C1
      have : i = an a := by omega
      subst this
      rw [Se_settle_l2, N1.1]
      exact it (nI_le (Nat.le_refl _) (by omega)) (hQ I T f ft N1 C1)
    | succ d ih =>
      intro i I T hi f ft N1 C1
      have hvi := hv i (by omega)
      rw [Se_settle_l2, show I 1 0 = nI (an a) from N1.1]
      refine ie (nI_ge (show i < an a by omega) (by omega)) (startTable_k (WA i (by omega)) N1 C1 o56 (show i < an a by omega) hvi (fun I1 f1 N2 C2 => ⟨avw a i + 1, ?_⟩))
      have inner : ∀ e v J, v + e = avw a i → Fr (fun x k => x = 1 + 7 ∧ 1024 * i ≤ k ∧ k < 1024 * i + 1024) I1 J → (∀ k, k < 8192 → byt (J (1 + 7) k)) → (∀ k, k < v → J (1 + 7) (1024 * i + k) = nI (srt st i k)) → Se_settle_l17 (up2 T 7 i none) L 1 (nI i) (fun I' T' x2' => Se_settle_l2 L 1 Q (d + 1) I' T' x2') Q (e + 1) J (nI v) := by
        intro e
        induction e with
        | zero =>
          intro v J he fJ hb ht
          have e5 : J (1 + 4) i = nI (avw a i) := by
            rw [fJ _ _ (by omega), N2.2.2.2.2.2.2.1 i (show i < an a by omega)]; exact if_pos hvi
          rw [Se_settle_l17, nx_nI (by omega), e5, nI_1]
          refine ⟨vin (by omega) (by omega), it (nI_le (by omega) (by omega)) ?_⟩
          obtain ⟨N3, C3⟩ := settled_k (t := srt st i) (WA i (by omega)) N2 C2 o56 (show i < an a by omega) hvi fJ hb (fun v' hv' => ht v' (by have hv' : v' < avw a i := hv'; omega))
          rw [aAll_s] at N3 C3
          refine ih (i + 1) J _ (by omega) ((f.tr (f1.mono ctP_n)).tr (fJ.mono (fun x k hx => by unfold nP; omega))) (fun x k hx => by rw [up2_get, if_neg (by omega)]; exact ft x k hx) N3 C3
        | succ e ihe =>
          intro v J he fJ hb ht
          have e5 : J (1 + 4) i = nI (avw a i) := by
            rw [fJ _ _ (by omega), N2.2.2.2.2.2.2.1 i (show i < an a by omega)]; exact if_pos hvi
          have e36 : J 36 (1024 * i + v) = nI (st (1024 * i + v)) := by
            rw [fJ _ _ (by omega), f1 _ _ (by unfold ctP; omega), f _ _ (by unfold nP; omega)]; exact h36 _ (by omega)
          have s1 := sl (1024 * i + v)
          have go : ∀ g, g = srt st i v → Net_setGuess J 1 (nI i) (nI v) (nI g) (fun I4 => Se_settle_l17 (up2 T 7 i none) L 1 (nI i) (fun I' T' x2' => Se_settle_l2 L 1 Q (d + 1) I' T' x2') Q (e + 1) I4 (nI (v + 1))) := by
            intro g hg
            have := sl' i v
            refine setGuess_k (by omega) (by omega) (by omega) (ihe (v + 1) _ (by omega) (fJ.up ⟨rfl, by omega, by omega⟩) (fun k hk => ?_) (fun k hk => ?_))
            · rw [up2_get]; split
              · exact (byt_k _ (by omega)).1
              · exact hb k hk
            · rw [up2_get]
              by_cases ek : k = v
              · rw [if_pos ⟨rfl, by omega⟩, ek, hg]
              · rw [if_neg (by omega)]; exact ht k (by omega)
          rw [Se_settle_l17, nx_nI (show i < 2 ^ 31 by omega), e5, nlit1024, nM, nI_add, Nat.mul_comm i, nx_nI (by omega), e36]
          simp only [nI_1]
          refine ⟨vin (by omega) (by omega), ie (nI_ge (by omega) (by omega)) ⟨vin (by omega) (by omega), ?_⟩⟩
          by_cases h0 : st (1024 * i + v) = 0
          · rw [h0]
            exact ie (by decide) (go 0 (by unfold srt; rw [h0]))
          · rw [show (nI (st (1024 * i + v)) - 1 : Int32) = nI (srt st i v) from by rw [nlit1, nS (by omega)]; rfl]
            exact it (nI_le (a := 0) (by omega) (by have := sl' i v; omega)) (go _ rfl)
      exact inner (avw a i) 0 I1 (by omega) Fr.rf N2.2.2.2.2.2.2.2.2.1 (fun k hk => by omega)
  exact ⟨an a + 1, key (an a) 0 I0 T0 (by omega) Fr.rf (fun _ _ _ => rfl) N C⟩
