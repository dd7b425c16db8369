/-! row, in -/
theorem Sc_play_k {I : HI} {T F : HR} {L : HL} {own : Nat → Nat} {a : AN} {r r1 row : Nat} (W : WF a) (N : CN I r1 a) (D : CT I T F L own r1 a) (h1 : own (r + 1) = 0) (h2 : own (r + 2) = 0) (hr : ∀ j, j ≤ 8 → r1 + j ≠ r + 2 ∧ r1 + j ≠ r + 1) (hrow : row < 2 ^ 31) {Q : HI → Prop} (hQ : ∀ I', Fr (fun b _ => b = r + 1 ∨ b = r + 2 ∨ own b = 3) I I' → (∀ w, w < an a → I' (r + 1) w = nI (hat a row w)) → (∀ w, w < an a → I' (r + 2) w = nI (gs a (hat a row) w)) → Q I') : Sc_play I T F L r r1 (nI row) Q := by
  have n8 := W.2.1
  unfold Sc_play
  refine Sc_dress_k N.1 N.2.1 (fun e => (hr 0 (by omega)).2 e.symm) n8 W.2.2.1 W.2.2.2.1 hrow (fun I1 f1 hh => ?_)
  have hh : ∀ w, w < an a → I1 (r + 1) w = nI (hat a row w) := hh
  have N1 : CN I1 r1 a := N.eq (fun j i hj => f1 _ _ (hr j hj).2)
  have D1 : CT I1 T F L own r1 a := D.fr (fun b i hb => f1 _ _ (fun e => by rw [e, h1] at hb; omega)) (fun _ _ => rfl) n8 Ext.rf
  refine Sc_guessAll_k W N1 D1 hh ⟨by rw [h1]; decide, h2⟩ (fun j hj => (hr j hj).1) (fun k _ => hat_lt W row k) (fun I2 f2 hg => hQ I2 ((f1.mono (fun b i hb => Or.inl hb)).tr (f2.mono (fun b i hb => Or.inr hb))) (fun w hw => ?_) hg)
  rw [f2 _ _ (fun e => by unfold scP at e; rcases e with e | e; omega; (rw [h1] at e; omega))]; exact hh w hw
theorem gs4 {a : AN} (W : WF a) {r : Nat} : ∀ k, k < an a → gs a (hat a r) k ≤ 4 := fun k hk => by have := gs_le W (fun j _ => hat_lt W r j) k hk; have := W.2.2.2.1; omega
theorem hat4 {a : AN} (W : WF a) {r : Nat} : ∀ k, k < an a → hat a r k ≤ 4 := fun k _ => by have := hat_lt W r k; have := W.2.2.2.1; omega
section
variable {own h : Nat → Nat} {a : AN} {ro : Nat} {I : HI} {J : HJ} {T F : HR} {L : HL} {IM : HI} {JM : HJ}
theorem fin_ok2 {I' IM' : HI} (B : InvB own h a ro I' T F L IM') (h0 : IM' 0 0 = 0) {r rb : Int32} (e : r = rb) : M_thrown IM' (fun rt => rt = 0 ∧ ((0 : Int32) = 0 → (I', up2 J ro 0 (Int32.toInt64 r), T, F, L).2.1 ro 0 = Int32.toInt64 rb) ∧ Inv ro (I', up2 J ro 0 (Int32.toInt64 r), T, F, L) IM' JM) := by
  unfold M_thrown
  exact ⟨h0, fun _ => by rw [e]; exact up2_same J ro 0 _, Inv_mk B⟩
theorem fin_no2 {I' IM' : HI} (B : InvB own h a ro I' T F L IM') (h1 : IM' 0 0 = 1) {P : Prop} : M_thrown IM' (fun rt => rt = 1 ∧ ((1 : Int32) = 0 → P) ∧ Inv ro (I', J, T, F, L) IM' JM) := by
  unfold M_thrown
  exact ⟨h1, fun q => absurd q (by decide), Inv_mk B⟩
end
/-- all rows worked, from any call's start -/
theorem M_all_s {IM : HI} {a : AN} (W : WF a) (R : RepM IM a) (hW : WorI a IM) {Q : HI → Prop} (h : ∀ IM', Fr (fun b i => (17 ≤ b ∧ b ≤ 22) ∨ b = 0 ∧ (i = 0 ∨ i = 40)) IM IM' → RepM IM' a → IM' 0 0 = 0 → WorI a IM' → (∀ r, r < aq a ^ an a → done IM' a r) → Q IM') : M_worksAll (up2 IM 0 0 0) Q := by
  refine M_worksAll_k W (R.eq (fun b i hb => Fr0 IM 0 _ _ (by omega))) (hW.eq (fun b i hb => Fr0 IM 0 _ _ (by omega))) (fun IM' f R' e40 hd => h IM' (((Fr0 IM 0).mono (fun b i hb => by omega)).tr (f.mono (fun b i hb => by unfold waP at hb; omega))) R' ?_ (Or.inr ⟨e40, hd⟩) hd)
  exact (f _ _ (by unfold waP; omega)).trans (up00 IM 0)
theorem b01_i (b : Bool) : b01 b = nI (if b then 1 else 0) := by cases b <;> rfl
theorem st_row {ro : Nat} {x1 x2 : Int32} {I : HI} {J : HJ} {T F : HR} {L : HL} {IM : HI} {JM : HJ} (hI : Inv ro (I, J, T, F, L) IM JM) : St_row x1 x2 I J T F L ro IM JM (Inv ro) := by
  obtain ⟨own, h, a, B⟩ := Inv_el hI
  have B0 := B
  obtain ⟨W, R, N, C, b5, b6, b7⟩ := B
  have hro := b7.1.2.2.2.1
  have o56 := b7.1.1
  have n8 := W.2.1
  have q4 := W.2.2.2.1
  have r5 := W.2.2.2.2.1
  obtain ⟨j1, lw, k9, j2, j3, j4, j5, j6, j7⟩ := b7.2.2.2.1
  unfold St_row L_row H_row
  have e3 : (up2 IM 0 0 0) 0 3 = nI (aq a ^ an a) := (Fr0 IM 0 _ _ (by omega)).trans R.2.1
  rcases wcase x1 (aq a ^ an a) (by omega) with ⟨r, hr, rfl⟩ | hx
  · refine H_needRow_y N.2.2.1 (by omega) hr (Sc_play_k W N C (o56 21 (by omega)) (o56 22 (by omega)) (fun j hj => ⟨by omega, by omega⟩) (by omega) (fun I1 f1 hh hg => ?_))
    have fs : Fr (fun b _ => b = 21 ∨ b = 22 ∨ b = 25 ∨ own b = 3) I I1 := f1.mono (fun b i hb => by omega)
    have N1 : CN I1 1 a := N.eq (fun j i hj => f1 _ _ (by have := o56 (1 + j) (by omega); omega))
    rcases xcase x2 (n := 3) (by omega) with ⟨k, hk, rfl⟩ | hx2
    · have my : ∀ {Q : Int32 → HI → Prop}, (∀ IM', Fr (fun b i => (17 ≤ b ∧ b ≤ 22) ∨ b = 0 ∧ (i = 0 ∨ i = 40)) IM IM' → IM' 0 0 = 0 → WorI a IM' → Q (if k = 0 then nI (rt a r) else if k = 1 then nI (wr a r) else if k = 2 then b01 (cts a h r) else b01 (wonB lw k9 (an a) (pop (rt a r)) (decide (wr a r = 0)))) IM') → M_row IM (nI r) (nI k) Q := by
        intro Q hq
        unfold M_row M_row_b28
        refine M_isRow_y e3 (up00 _ _) (by omega) hr (ie (by decide) (ie (nI_pos (by omega)) (ie (nI_nlt (a := 3) hk (by omega)) (M_right_y (up00 _ _) (ie (by decide) (M_all_s W R b5 (fun IM' fm R' h0 hw hd => ?_)))))))
        have hq := hq IM' fm h0 hw
        obtain ⟨d1, d2, d3⟩ := hd r hr
        rw [nx_nI (by omega), d1, d2]
        unfold M_row_b95
        have bq : ∀ {b : Bool}, Q (b01 b) IM' → (if b01 b = 0 then Q 0 IM' else Q 1 IM') := fun {b} hb => by cases b; exact it rfl hb; exact ie (by decide) hb
        rcases (show k = 0 ∨ k = 1 ∨ k = 2 ∨ k = 3 by omega) with rfl | rfl | rfl | rfl
        · exact ie (by decide) (it rfl ⟨vin (by omega) (by omega), hq⟩)
        · exact ie (by decide) (ie (by decide) ⟨vin (by omega) (by omega), hq⟩)
        · exact it (by decide) (it rfl (M_counts_k W R'.1.1 R'.1.2.1 (fun c hc => ⟨(fm _ _ (by omega)).trans (j1 c hc).2.1, (j1 c hc).2.2⟩) (by omega) (bq hq)))
        · exact it (by decide) (ie (by decide) ⟨vin (by omega) (by omega), vin (by omega) (by omega), M_isWon_k ((fm _ _ (by omega)).trans j3) ((fm _ _ (by omega)).trans j6) R'.1.1 j4 j7 n8 (rt_lt a r) (wr_lt a r) (bq hq)⟩)
      have fin : ∀ {I2 : HI} {x : Int32}, Fr (fun b _ => b = 21 ∨ b = 22 ∨ b = 25 ∨ own b = 3) I I2 → x = (if k = 0 then nI (rt a r) else if k = 1 then nI (wr a r) else if k = 2 then b01 (cts a h r) else b01 (wonB lw k9 (an a) (pop (rt a r)) (decide (wr a r = 0)))) → (ro, 4, 1) ∈ (I2, up2 J ro 0 (Int32.toInt64 x), T, F, L).2.2.2.2 ∧ M_row IM (nI r) (nI k) (fun rb IM2 => M_thrown IM2 fun rt => rt = 0 ∧ ((0 : Int32) = 0 → (I2, up2 J ro 0 (Int32.toInt64 x), T, F, L).2.1 ro 0 = Int32.toInt64 rb) ∧ Inv ro (I2, up2 J ro 0 (Int32.toInt64 x), T, F, L) IM2 JM) := by
        intro I2 x f2 e
        exact ⟨hro, my (fun IM' fm h0 hw => fin_ok2 (B0.scr f2 fm hw) h0 e)⟩
      rcases (show k = 0 ∨ k = 1 ∨ k = 2 ∨ k = 3 by omega) with rfl | rfl | rfl | rfl
      · exact it rfl (Sc_right_k W N1.1 hh hg (hat4 W) (gs4 W) (fin fs rfl))
      · exact ie (by decide) (it rfl (Sc_wrong_k W N1.1 N1.2.1 hh hg (hat4 W) (gs4 W) (fin fs rfl)))
      · refine ie (by decide) (ie (by decide) (it rfl ?_))
        rw [N1.1]
        refine weigh_pos (H := h) W (fun c hc => ⟨?_, (j1 c hc).2.2⟩) (by omega) hh (fun I2 z f2 hz => ?_)
        · rw [f1 _ _ (by have := o56 24 (by omega); omega)]; exact (j1 c hc).1
        · have f3 : Fr (fun b _ => b = 21 ∨ b = 22 ∨ b = 25 ∨ own b = 3) I I2 := fs.tr (f2.mono (fun b i hb => by omega))
          refine ic (fun hc => ?_) (fun hc => ?_)
          · rw [hz] at hc; exact fin f3 (show 0 = b01 (cts a h r) by rw [hc]; rfl)
          · rw [hz] at hc
            have : cts a h r = true := by cases e : cts a h r; exact absurd e hc; rfl
            exact fin f3 (show 1 = b01 (cts a h r) by rw [this]; rfl)
      · refine ie (by decide) (ie (by decide) (ie (by decide) (it rfl (Sc_right_k W N1.1 hh hg (hat4 W) (gs4 W) (Sc_wrong_k W N1.1 N1.2.1 hh hg (hat4 W) (gs4 W) ?_)))))
        rw [N1.1]
        refine Jud_isWon_k (rm := rt a r) (wm := wr a r) (lw := lw) (k := k9) ?_ ?_ j4 j7 n8 (rt_lt a r) (wr_lt a r) ?_
        · rw [f1 _ _ (by have := o56 23 (by omega); omega)]; exact j2
        · rw [f1 _ _ (by have := o56 23 (by omega); omega)]; exact j5
        · cases hb : wonB lw k9 (an a) (pop (rt a r)) (decide (wr a r = 0)) with
          | false => exact it rfl (fin fs (show 0 = b01 _ by rw [hb]; rfl))
          | true => exact ie (by decide) (fin fs (show 1 = b01 _ by rw [hb]; rfl))
    · refine ie (xno (n := 3) (k := 0) (by omega) hx2 (by omega)) (ie (xno (n := 3) (k := 1) (by omega) hx2 (by omega)) (ie (xno (n := 3) (k := 2) (by omega) hx2 (by omega)) (ie (xno (n := 3) (k := 3) (by omega) hx2 (by omega)) ⟨hro, ?_⟩)))
      unfold M_row M_row_b27 M_row_b28
      have Bn : InvB own h a ro I1 T F L (up2 (up2 IM 0 0 0) 0 0 1) := B0.scr fs ((Fr01 IM).mono (fun b i hb => by omega)) (b5.eq (fun b i hb => Fr01 IM _ _ (by omega)))
      refine M_isRow_y e3 (up00 _ _) (by omega) hr (ie (by decide) ?_)
      rcases hx2 with h0 | ⟨h0, h9⟩
      · exact it h0 (M_right_n (up00 _ _) (it rfl (fin_no2 Bn (up00' _))))
      · exact ie h0 (it h9 (M_right_n (up00 _ _) (it rfl (fin_no2 Bn (up00' _)))))
  · refine H_needRow_n N.2.2.1 hx ⟨hro, ?_⟩
    unfold M_row
    exact M_isRow_n e3 (up00 _ _) hx (it rfl (fin_no B0 (Fr01 IM) (up00' _)))
