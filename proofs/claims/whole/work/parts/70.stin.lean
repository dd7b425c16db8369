/-! in -/
theorem M_in_1 {IM : HI} {a : AN} {r w : Nat} (W : WF a) (R : RepM IM a) (hW : WorI a IM) (hr : r < aq a ^ an a) (hw : w < an a) {Q : Int32 → HI → Prop} (hq : ∀ IM', Fr (fun b i => (17 ≤ b ∧ b ≤ 22) ∨ b = 0 ∧ (i = 0 ∨ i = 40)) IM IM' → IM' 0 0 = 0 → WorI a IM' → Q (nI (gs a (hat a r) w)) IM') : M_in IM (nI r) (nI w) 1 Q := by
  have n8 := W.2.1
  have r5 := W.2.2.2.2.1
  have e1 : (up2 IM 0 0 0) 0 1 = nI (an a) := (Fr0 IM 0 _ _ (by omega)).trans R.1.1
  have e3 : (up2 IM 0 0 0) 0 3 = nI (aq a ^ an a) := (Fr0 IM 0 _ _ (by omega)).trans R.2.1
  unfold M_in M_in_b40 M_in_b69
  refine M_isRow_y e3 (up00 _ _) (by omega) hr (ie (by decide) (ie (nI_pos (by omega)) (ie (by rw [e1]; exact nI_ge hw (by omega)) (ie (by decide) (it rfl (M_right_y (up00 _ _) (ie (by decide) (it rfl (M_right_y (up00 _ _) (ie (by decide) (M_all_s W R hW (fun IM' fm R' h0 hw' hd => it rfl ?_))))))))))))
  rw [show (8 : Int32) = nI 8 from rfl, nM, nI_add, nx_nI (by omega), (hd r hr).2.2 w hw]
  exact ⟨vin (by omega) (by omega), hq IM' fm h0 hw'⟩
theorem M_in_l {a : AN} {r w : Nat} {J0 : HI} (W : WF a) (R : RepM J0 a) (hr : r < aq a ^ an a) (hw : w < an a) (h17 : ∀ k, k < an a → J0 17 k = nI (hat a r k)) (h22 : ∀ k, k < an a → J0 22 (8 * r + k) = nI (gs a (hat a r) k)) {Q : Int32 → HI → Prop} (hq : ∀ J, Fr (fun b _ => b = 18) J0 J → Q (nI (view a (hat a r) (gs a (hat a r)) w)) J) : ∀ d j J, j + d = an a → Fr (fun b _ => b = 18) J0 J → (∀ k, k < j → J 18 k = nI (gs a (hat a r) k)) → M_in_l107 (nI r) (nI w) Q (d + 1) J (nI j) := by
  have n8 := W.2.1
  have r5 := W.2.2.2.2.1
  intro d
  induction d with
  | zero =>
    intro j J hj f hs
    have RJ := R.eq (I' := J) (fun b i hb => f _ _ (by omega))
    rw [M_in_l107, RJ.1.1]
    exact it (nI_le (by omega) (by omega)) (M_viewOf_k W ⟨RJ, fun k hk => (f _ _ (by omega)).trans (h17 k hk), fun k hk _ => hs k (by omega)⟩ hw (hq J f))
  | succ d ih =>
    intro j J hj f hs
    have hj' : j < an a := by omega
    have RJ := R.eq (I' := J) (fun b i hb => f _ _ (by omega))
    rw [M_in_l107, RJ.1.1, show (8 : Int32) = nI 8 from rfl, nM, nI_add, nx_nI (by omega), nx_nI (by omega), f _ _ (by omega), h22 j hj']
    simp only [nI_1]
    refine ie (nI_ge (by omega) (by omega)) ⟨vin (by omega) (by omega), vin (by omega) (by omega), ih (j + 1) _ (by omega) (f.up rfl) (fun k hk => ?_)⟩
    rw [up2_get]
    by_cases e : k = j
    · rw [if_pos ⟨rfl, e⟩, e]
    · rw [if_neg (by omega)]; exact hs k (by omega)
theorem M_in_0 {IM : HI} {a : AN} {r w : Nat} (W : WF a) (R : RepM IM a) (hW : WorI a IM) (hr : r < aq a ^ an a) (hw : w < an a) {Q : Int32 → HI → Prop} (hv : avw a w ≤ 1024) (hq : ∀ IM', Fr (fun b i => (17 ≤ b ∧ b ≤ 22) ∨ b = 0 ∧ (i = 0 ∨ i = 40)) IM IM' → IM' 0 0 = 0 → WorI a IM' → Q (nI (view a (hat a r) (gs a (hat a r)) w)) IM') : M_in IM (nI r) (nI w) 0 Q := by
  have n8 := W.2.1
  have r5 := W.2.2.2.2.1
  have e1 : (up2 IM 0 0 0) 0 1 = nI (an a) := (Fr0 IM 0 _ _ (by omega)).trans R.1.1
  have e3 : (up2 IM 0 0 0) 0 3 = nI (aq a ^ an a) := (Fr0 IM 0 _ _ (by omega)).trans R.2.1
  have hv' : vw (an a) (aq a) (alk a) (ard a) w ≤ 1024 := hv
  unfold M_in M_in_b40
  refine M_isRow_y e3 (up00 _ _) (by omega) hr (ie (by decide) (ie (nI_pos (by omega)) (ie (by rw [e1]; exact nI_ge hw (by omega)) (it rfl (M_right_y (up00 _ _) (ie (by decide) (ie (by decide) (M_viewsOf_k (MN0 R.1) hw ?_))))))))
  unfold vwc
  rw [if_pos hv']
  refine ie (nI_nlt (a := 1024) hv' (by omega)) ?_
  unfold M_in_b69
  refine M_right_y (up00 _ _) (ie (by decide) (M_all_s W R hW (fun I1 fm R' h0 hw' hd => ie (by decide) ?_)))
  refine M_wears_k R'.1.1 R'.1.2.1 n8 W.2.2.1 W.2.2.2.1 (by omega) (fun I2 f2 h17 => ⟨an a + 1, ?_⟩)
  refine M_in_l W (R'.eq (fun b i hb => f2 _ _ (by omega))) hr hw h17 (fun k hk => (f2 _ _ (by omega)).trans ((hd r hr).2.2 k hk)) (fun J fJ => hq J ((fm.tr (f2.mono (fun b i hb => by omega))).tr (fJ.mono (fun b i hb => by omega))) ?_ ?_) (an a) 0 I2 (by omega) Fr.rf (fun k hk => by omega)
  · exact (fJ _ _ (by omega)).trans ((f2 _ _ (by omega)).trans h0)
  · exact hw'.eq (fun b i hb => (fJ _ _ (by omega)).trans (f2 _ _ (by omega)))
theorem M_in_n {IM : HI} {a : AN} {r w : Nat} {x2 x3 : Int32} (W : WF a) (R : RepM IM a) (hr : r < aq a ^ an a) (hx : (x2 < 0 ∨ (¬ x2 < 0 ∧ nI (an a) ≤ x2)) ∨ x2 = nI w ∧ w < an a ∧ ((¬ x3 = 0 ∧ ¬ x3 = 1) ∨ (x3 = 0 ∧ ¬ avw a w ≤ 1024))) {Q : Int32 → HI → Prop} (hq : Q 0 (up2 (up2 IM 0 0 0) 0 0 1)) : M_in IM (nI r) x2 x3 Q := by
  have n8 := W.2.1
  have r5 := W.2.2.2.2.1
  have e1 : (up2 IM 0 0 0) 0 1 = nI (an a) := (Fr0 IM 0 _ _ (by omega)).trans R.1.1
  have e3 : (up2 IM 0 0 0) 0 3 = nI (aq a ^ an a) := (Fr0 IM 0 _ _ (by omega)).trans R.2.1
  have k0 : M_in_b39 (up2 IM 0 0 0) (nI r) x2 x3 Q := by
    unfold M_in_b39 M_in_b40
    exact M_right_n (up00 _ _) (it rfl hq)
  unfold M_in
  refine M_isRow_y e3 (up00 _ _) (by omega) hr (ie (by decide) ?_)
  rcases hx with (h0 | ⟨h0, h1⟩) | ⟨rfl, hw, ⟨h0, h1⟩ | ⟨rfl, h1⟩⟩
  · exact it h0 k0
  · exact ie h0 (it (by rw [e1]; exact h1) k0)
  · exact ie (nI_pos (by omega)) (ie (by rw [e1]; exact nI_ge hw (by omega)) (ie h0 (ie h1 k0)))
  · refine ie (nI_pos (by omega)) (ie (by rw [e1]; exact nI_ge hw (by omega)) (it rfl ?_))
    have hv' : ¬ vw (an a) (aq a) (alk a) (ard a) w ≤ 1024 := h1
    unfold M_in_b40
    refine M_right_y (up00 _ _) (ie (by decide) (ie (by decide) (M_viewsOf_k (MN0 R.1) hw ?_)))
    unfold vwc
    rw [if_neg hv']
    refine it (by decide) ?_
    unfold M_in_b69
    exact M_right_n (up00 _ _) (it rfl hq)
theorem st_in {ro : Nat} {x1 x2 x3 : Int32} {I : HI} {J : HJ} {T F : HR} {L : HL} {IM : HI} {JM : HJ} (hI : Inv ro (I, J, T, F, L) IM JM) : St_in x1 x2 x3 I J T F L ro IM JM (Inv ro) := by
  obtain ⟨own, h, a, B⟩ := Inv_el hI
  have B0 := B
  obtain ⟨W, R, N, C, b5, b6, b7⟩ := B
  have hro := b7.1.2.2.2.1
  have o56 := b7.1.1
  have n8 := W.2.1
  have r5 := W.2.2.2.2.1
  have e3 : (up2 IM 0 0 0) 0 3 = nI (aq a ^ an a) := (Fr0 IM 0 _ _ (by omega)).trans R.2.1
  unfold St_in L_in H_in
  rcases wcase x1 (aq a ^ an a) (by omega) with ⟨r, hr, rfl⟩ | hx
  · refine H_needRow_y N.2.2.1 (by omega) hr ?_
    rcases wcase x2 (an a) (by omega) with ⟨w, hw, rfl⟩ | hx2
    · refine H_need_y N.1 n8 hw ?_
      have play : ∀ {Q : HI → Prop}, (∀ I1, Fr (fun b _ => b = 21 ∨ b = 22 ∨ b = 25 ∨ own b = 3) I I1 → CN I1 1 a → (∀ k, k < an a → I1 21 k = nI (hat a r k)) → (∀ k, k < an a → I1 22 k = nI (gs a (hat a r) k)) → Q I1) → Sc_play I T F L 20 1 (nI r) Q := fun {Q} hq => Sc_play_k W N C (o56 21 (by omega)) (o56 22 (by omega)) (fun j hj => ⟨by omega, by omega⟩) (by omega) (fun I1 f1 hh hg => hq I1 (f1.mono (fun b i hb => by omega)) (N.eq (fun j i hj => f1 _ _ (by have := o56 (1 + j) (by omega); omega))) hh hg)
      rcases xcase x3 (n := 1) (by omega) with ⟨k, hk, rfl⟩ | hx3
      · refine ie (nI_pos (by omega)) (ie (nI_nlt (a := 1) hk (by omega)) ?_)
        rcases (show k = 0 ∨ k = 1 by omega) with rfl | rfl
        · refine it rfl ?_
          rw [nx_nI (by omega), N.2.2.2.2.2.2.1 w hw]
          refine ⟨vin (by omega) (by omega), ic (fun hc => ?_) (fun hc => ?_)⟩
          · rw [vwi_n] at hc
            unfold H_in_b36
            exact ⟨hro, M_in_n W R hr (Or.inr ⟨rfl, hw, Or.inr ⟨rfl, hc⟩⟩) (fin_no B0 (Fr01 IM) (up00' _))⟩
          · rw [vwi_n] at hc
            unfold H_in_b46
            exact play (fun I1 f1 N1 hh hg => it rfl (Sc_viewOf_k W ⟨N1, hh, fun k hk _ => hg k hk⟩ hw ⟨hro, M_in_0 W R b5 hr hw (by omega) (fun IM' fm h0 hw' => fin_ok2 (B0.scr f1 fm hw') h0 rfl)⟩))
        · refine ie (by decide) ?_
          unfold H_in_b46
          refine play (fun I1 f1 N1 hh hg => ie (by decide) ?_)
          rw [nx_nI (by omega), hg w hw]
          exact ⟨vin (by omega) (by omega), hro, M_in_1 W R b5 hr hw (fun IM' fm h0 hw' => fin_ok2 (B0.scr f1 fm hw') h0 rfl)⟩
      · have hk : (ro, 4, 1) ∈ L ∧ M_in IM (nI r) (nI w) x3 (fun rb IM2 => M_thrown IM2 (fun rt => rt = 1 ∧ ((1 : Int32) = 0 → J ro 0 = Int32.toInt64 rb) ∧ Inv ro (I, J, T, F, L) IM2 JM)) := ⟨hro, M_in_n W R hr (Or.inr ⟨rfl, hw, Or.inl ⟨xno (n := 1) (k := 0) (by omega) hx3 (by omega), xno (n := 1) (k := 1) (by omega) hx3 (by omega)⟩⟩) (fin_no B0 (Fr01 IM) (up00' _))⟩
        unfold H_in_b36
        rcases hx3 with h0 | ⟨h0, h9⟩
        · exact it h0 hk
        · exact ie h0 (it h9 hk)
    · exact H_need_n N.1 hx2 ⟨hro, M_in_n (w := 0) W R hr (Or.inl hx2) (fin_no B0 (Fr01 IM) (up00' _))⟩
  · refine H_needRow_n N.2.2.1 hx ⟨hro, ?_⟩
    unfold M_in
    exact M_isRow_n e3 (up00 _ _) hx (it rfl (fin_no B0 (Fr01 IM) (up00' _)))
