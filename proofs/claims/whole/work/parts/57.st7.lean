/-! cell, count, tell: tables -/
def aTab (a : AN) (w : Nat) (t : Nat → Nat) : AN := (an a, aq a, alk a, ard a, upn (akd a) w 0, upn (atb a) w t, acd a)
theorem aTab_WF {a : AN} {w : Nat} {t : Nat → Nat} (W : WF a) (hv : avw a w ≤ 1024) (ht : ∀ v, v < avw a w → t v ≤ aq a) : WF (aTab a w t) := by
  obtain ⟨w1, w2, w3, w4, w5, w6⟩ := W
  refine ⟨w1, w2, w3, w4, w5, fun k hk => ?_⟩
  obtain ⟨g1, g2, g3, g4, g5⟩ := w6 k hk
  refine ⟨g1, g2, g3, ?_, ?_⟩
  · show (upn (akd a) w 0 k = 1 ∧ _) ∨ upn (akd a) w 0 k = if avw a k ≤ 1024 then 0 else 2
    by_cases e : k = w
    · subst e; rw [upn_same]; right; rw [if_pos hv]
    · rw [upn_ne _ _ e]; exact g4
  · show upn (akd a) w 0 k = 0 → ∀ v, v < avw a k → upn (atb a) w t k v ≤ aq a
    by_cases e : k = w
    · subst e; rw [upn_same, upn_same]; intro _; exact ht
    · rw [upn_ne _ _ e, upn_ne _ _ e]; exact g5
theorem CN_tab {I I' : HI} {r w : Nat} {a : AN} {t : Nat → Nat} (W : WF a) (N : CN I r a) (hw : w < an a) (f : Fr (fun b i => b = r + 7 ∧ 1024 * w ≤ i ∧ i < 1024 * w + 1024) I I') (hb : ∀ i, i < 8192 → byt (I' (r + 7) i)) (ht : ∀ v, v < avw a w → I' (r + 7) (1024 * w + v) = nI (t v)) : CN I' r (aTab a w t) := by
  obtain ⟨e0, e1, e2, e3, e4, e5, e6, ⟨o, e7, e7'⟩, e8, e9⟩ := N
  refine ⟨(f _ _ (by omega)).trans e0, (f _ _ (by omega)).trans e1, (f _ _ (by omega)).trans e2, fun k hk => (f _ _ (by omega)).trans (e3 k hk), fun k hk => (f _ _ (by omega)).trans (e4 k hk), fun k hk => (f _ _ (by omega)).trans (e5 k hk), fun k hk => (f _ _ (by omega)).trans (e6 k hk), ⟨o, e7, fun i hi => (f _ _ (by omega)).trans (e7' i hi)⟩, hb, fun k hk h0 v hv => ?_⟩
  have h0 : upn (akd a) w 0 k = 0 := h0
  show I' (r + 7) (1024 * k + v) = nI (upn (atb a) w t k v)
  by_cases e : k = w
  · subst e; rw [upn_same]; exact ht v hv
  · rw [upn_ne _ _ e] at h0
    rw [upn_ne _ _ e]
    have := W.k1 k hk h0
    have hv : v < avw a k := hv
    rw [f _ _ (by omega)]; exact e9 k hk h0 v hv
theorem CT_tab {I I' : HI} {T T' F : HR} {L : HL} {own : Nat → Nat} {r w : Nat} {a : AN} {t : Nat → Nat} (W : WF a) (C : CT I T F L own r a) (hI : ∀ b i, own b = 2 → I' b i = I b i) (hw : w < an a) (h0 : T' (r + 6) w = none) (hT : ∀ k, k ≠ w → T' (r + 6) k = T (r + 6) k) : CT I' T' F L own r (aTab a w t) := by
  obtain ⟨h1, h2, h3⟩ := C
  refine ⟨h1, fun k f hk hf => ?_, fun k hk => ?_⟩
  · by_cases e : k = w
    · subst e; rw [h0] at hf; cases hf
    · rw [hT k e] at hf; exact h2 k f hk hf
  · show (upn (akd a) w 0 k ≠ 1 ∧ _) ∨ (upn (akd a) w 0 k = 1 ∧ _)
    by_cases e : k = w
    · subst e; rw [upn_same]; exact Or.inl ⟨by decide, h0⟩
    · rw [upn_ne _ _ e, hT k e]
      rcases h3 k hk with g | ⟨g, f, g1, g2⟩
      · exact Or.inl g
      · exact Or.inr ⟨g, f, g1, g2.fr hI Ext.rf⟩
theorem RepM_tab {I I' : HI} {w : Nat} {a : AN} {t : Nat → Nat} (W : WF a) (R : RepM I a) (hw : w < an a) (f : Fr (fun b i => b = 4 ∧ i = w ∨ b = 5 ∧ 1024 * w ≤ i ∧ i < 1024 * w + 1024) I I') (h4 : I' 4 w = 0) (ht : ∀ v, v < avw a w → I' 5 (1024 * w + v) = nI (t v)) : RepM I' (aTab a w t) := by
  refine ⟨R.1.fr f (by omega) (by omega) (fun _ _ => by omega) (fun _ _ => by omega), (f _ _ (by omega)).trans R.2.1, fun k hk => ?_⟩
  show I' 4 k = nI (upn (akd a) w 0 k) ∧ (upn (akd a) w 0 k = 0 → ∀ v, v < avw a k → I' 5 (1024 * k + v) = nI (upn (atb a) w t k v)) ∧ (upn (akd a) w 0 k = 1 → mcd I' k (acd a k))
  by_cases e : k = w
  · subst e; rw [upn_same, upn_same]; exact ⟨h4, fun _ => ht, fun q => by omega⟩
  · rw [upn_ne _ _ e, upn_ne _ _ e]
    have g : kfact I a k := R.2.2 k hk
    exact g.eq (fun x i hx => f _ _ (by omega)) (W.k1 k hk)
theorem M_cell_y {IM : HI} {a : AN} (W : WF a) (R : RepM IM a) {w v : Nat} (hw : w < an a) (hk : akd a w = 0) (hv : v < avw a w) {Q : Int32 → HI → Prop} (h : Q (nI (atb a w v)) (up2 IM 0 0 0)) : M_cell IM (nI w) (nI v) Q := by
  have n8 := W.2.1
  have h1 := W.k1 w hw hk
  have ev : vwc (an a) (aq a) (alk a) (ard a) w = avw a w := if_pos h1
  unfold M_cell M_cell_b36
  refine M_isWearer_y R.1.1 n8 hw (ie (by decide) ⟨vin (by omega) (by omega), ?_⟩)
  rw [nx_nI (by omega), Fr0 IM 0 _ _ (by omega), (R.2.2 w hw).1, hk]
  refine it rfl (ie (nI_pos (by omega)) (M_viewsOf_k (MN0 R.1) hw ?_))
  rw [ev, nlit1024, nM, nI_add]
  refine ie (nI_ge hv (by omega)) (M_right_y (up00 _ _) (ie (by decide) ⟨vin (by omega) (by omega), ?_⟩))
  rw [nx_nI (by omega), Fr0 IM 0 _ _ (by omega), (R.2.2 w hw).2.1 hk v hv]
  exact h
theorem M_cell_n {IM : HI} {a : AN} (W : WF a) (R : RepM IM a) {w : Nat} {x : Int32} (hw : w < an a) (hn : akd a w ≠ 0 ∨ (x < 0 ∨ (¬ x < 0 ∧ nI (avw a w) ≤ x))) {Q : Int32 → HI → Prop} (h : Q 0 (up2 (up2 IM 0 0 0) 0 0 1)) : M_cell IM (nI w) x Q := by
  have n8 := W.2.1
  have k2 := W.kd hw
  unfold M_cell M_cell_b35 M_cell_b36
  refine M_isWearer_y R.1.1 n8 hw (ie (by decide) ⟨vin (by omega) (by omega), ?_⟩)
  rw [nx_nI (by omega), Fr0 IM 0 _ _ (by omega), (R.2.2 w hw).1]
  have no := M_right_n (I := up2 IM 0 0 0) (up00 _ _) (Q := fun r4 I5 => if r4 = 0 then Q 0 I5 else vp_in (1024 * nI w + x) 8192 ∧ Q (I5 5 (nx (1024 * nI w + x))) I5) (it rfl h)
  by_cases hk : akd a w = 0
  · have h1 := W.k1 w hw hk
    have ev : vwc (an a) (aq a) (alk a) (ard a) w = avw a w := if_pos h1
    rw [hk]
    refine it rfl ?_
    rcases hn with hn | hn
    · exact absurd hk hn
    · rcases hn with h0 | ⟨h0, h9⟩
      · exact it h0 no
      · refine ie h0 (M_viewsOf_k (MN0 R.1) hw ?_)
        rw [ev]
        exact it h9 no
  · exact ie (fun q => hk (by rw [nlit0, nI_eq (by omega) (by omega)] at q; exact q)) no
theorem st_cell {ro : Nat} {x1 x2 : Int32} {I : HI} {J : HJ} {T F : HR} {L : HL} {IM : HI} {JM : HJ} (hI : Inv ro (I, J, T, F, L) IM JM) : St_cell x1 x2 I J T F L ro IM JM (Inv ro) := by
  obtain ⟨own, h, a, B⟩ := Inv_el hI
  have B0 := B
  obtain ⟨W, R, N, C, b5, b6, b7⟩ := B
  have hro := b7.1.2.2.2.1
  have n8 := W.2.1
  unfold St_cell L_cell H_cell H_cell_b33
  rcases wcase x1 (an a) (by omega) with ⟨w, hw, rfl⟩ | hx
  · refine H_need_y N.1 n8 hw (Net_has_k W N C hw (fun hk => ?_) (fun hk => ?_))
    · refine ie (by decide) ?_
      have hv := W.k1 w hw hk
      have e5 : I 5 w = nI (avw a w) := by rw [N.2.2.2.2.2.2.1 w hw]; exact if_pos hv
      rw [nx_nI (by omega), e5]
      rcases wcase x2 (avw a w) (by omega) with ⟨v, hvv, rfl⟩ | hx2
      · refine ie (nI_pos (by omega)) ⟨vin (by omega) (by omega), it (nI_lt hvv (by omega)) ?_⟩
        unfold Net_guessAt
        rw [nlit1024, nM, nI_add, Nat.mul_comm w]
        refine ⟨vin (by omega) (by omega), hro, M_cell_y W R hw hk hvv (fin_ok B0 (Fr0 IM 0) (up00 _ _) ?_)⟩
        rw [nx_nI (by omega)]
        exact N.2.2.2.2.2.2.2.2.2 w hw hk v hvv
      · rcases hx2 with h0 | ⟨h0, h9⟩
        · exact it h0 ⟨hro, M_cell_n W R hw (Or.inr (Or.inl h0)) (fin_no B0 (Fr01 IM) (up00' _))⟩
        · exact ie h0 ⟨vin (by omega) (by omega), ie (fun q => nle_of_lt q h9) ⟨hro, M_cell_n W R hw (Or.inr (Or.inr ⟨h0, h9⟩)) (fin_no B0 (Fr01 IM) (up00' _))⟩⟩
    · exact it rfl ⟨hro, M_cell_n W R hw (Or.inl hk) (fin_no B0 (Fr01 IM) (up00' _))⟩
  · unfold M_cell
    exact H_need_n N.1 hx ⟨hro, M_isWearer_n R.1.1 hx (it rfl (fin_no B0 (Fr01 IM) (up00' _)))⟩
