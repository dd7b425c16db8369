/-! about, cell, count -/
theorem vwi_n {v : Nat} : vwi v = -1 ↔ ¬ v ≤ 1024 := by
  unfold vwi
  by_cases h : v ≤ 1024
  · rw [if_pos h]
    refine ⟨fun e => ?_, fun q => absurd h q⟩
    rcases nneg v with g | g
    · exact absurd e g
    · omega
  · rw [if_neg h]; exact ⟨fun _ => h, fun _ => rfl⟩
theorem WF.kd {a : AN} (W : WF a) {w : Nat} (hw : w < an a) : akd a w ≤ 2 := by
  rcases (W.2.2.2.2.2 w hw).2.2.2.1 with g | g
  · omega
  · rw [g]; split <;> omega
theorem WF.kd01 {a : AN} (W : WF a) {w : Nat} (hw : w < an a) (h1 : akd a w ≠ 1) : akd a w = if avw a w ≤ 1024 then 0 else 2 := by
  rcases (W.2.2.2.2.2 w hw).2.2.2.1 with g | g
  · omega
  · exact g
theorem Net_kind_k {I : HI} {T F : HR} {L : HL} {own : Nat → Nat} {r w : Nat} {a : AN} (W : WF a) (N : CN I r a) (C : CT I T F L own r a) (hw : w < an a) {Q : Int32 → Prop} (h : Q (nI (akd a w))) : Net_kindOfRule I T r (nI w) Q := by
  have n8 := W.2.1
  unfold Net_kindOfRule
  rw [nx_nI (by omega), N.2.2.2.2.2.2.1 w hw]
  refine ⟨vin (by omega) (by omega), fun h0 => ⟨vin (by omega) (by omega), ?_⟩, fun f hf => ?_⟩
  · have h1 : akd a w ≠ 1 := by
      rcases C.2.2 w hw with g | ⟨g, f, g1, _⟩
      · exact g.1
      · rw [h0] at g1; cases g1
    rw [W.kd01 hw h1] at h
    refine ic (fun hc => ?_) (fun hc => ?_)
    · rw [vwi_n] at hc; rw [if_neg hc] at h; exact h
    · rw [vwi_n] at hc; rw [if_pos (by omega)] at h; exact h
  · rcases C.2.2 w hw with g | ⟨g, f', g1, _⟩
    · rw [g.2] at hf; cases hf
    · rw [g] at h; exact h
/-- a wearer has a table, told as the machine tells it -/
theorem Net_has_k {I : HI} {T F : HR} {L : HL} {own : Nat → Nat} {r w : Nat} {a : AN} (W : WF a) (N : CN I r a) (C : CT I T F L own r a) (hw : w < an a) {Q : Int32 → Prop} (hy : akd a w = 0 → Q 1) (hn : akd a w ≠ 0 → Q 0) : Net_hasTable I T r (nI w) Q := by
  have n8 := W.2.1
  unfold Net_hasTable
  rw [nx_nI (by omega), N.2.2.2.2.2.2.1 w hw]
  refine ⟨vin (by omega) (by omega), fun h0 => ⟨vin (by omega) (by omega), ?_⟩, fun f hf => ?_⟩
  · have h1 : akd a w ≠ 1 := by
      rcases C.2.2 w hw with g | ⟨g, f, g1, _⟩
      · exact g.1
      · rw [h0] at g1; cases g1
    have hk := W.kd01 hw h1
    refine ic (fun hc => ?_) (fun hc => ?_)
    · rw [vwi_n] at hc; rw [if_neg hc] at hk; exact hn (by omega)
    · rw [vwi_n] at hc; rw [if_pos (by omega)] at hk; exact hy hk
  · rcases C.2.2 w hw with g | ⟨g, f', g1, _⟩
    · rw [g.2] at hf; cases hf
    · exact hn (by omega)
theorem MN0 {IM : HI} {n q : Nat} {lk rd : Nat → Nat} (N : MN IM n q lk rd) : MN (up2 IM 0 0 0) n q lk rd := N.fr (Fr0 IM 0) (by omega) (by omega) (fun _ _ => by omega) (fun _ _ => by omega)
theorem st_about {ro : Nat} {x1 x2 : Int32} {I : HI} {J : HJ} {T F : HR} {L : HL} {IM : HI} {JM : HJ} (hI : Inv ro (I, J, T, F, L) IM JM) : St_about x1 x2 I J T F L ro IM JM (Inv ro) := by
  obtain ⟨own, h, a, B⟩ := Inv_el hI
  have B0 := B
  obtain ⟨W, R, N, C, b5, b6, b7⟩ := B
  have hro := b7.1.2.2.2.1
  have n8 := W.2.1
  unfold St_about L_about H_about M_about
  rcases wcase x1 (an a) (by omega) with ⟨w, hw, rfl⟩ | hx
  · refine H_need_y N.1 n8 hw ?_
    have f0 := Fr0 IM 0
    rcases xcase x2 (n := 4) (by omega) with ⟨k, hk, rfl⟩ | hx2
    · have my : ∀ {Q : Int32 → HI → Prop}, (M_viewsOf (up2 IM 0 0 0) (nI w) (fun r7 => if nI k = 0 then (vp_in (nI w) 8 ∧ Q ((up2 IM 0 0 0) 2 (nx (nI w))) (up2 IM 0 0 0)) else if nI k = 1 then (vp_in (nI w) 8 ∧ Q ((up2 IM 0 0 0) 3 (nx (nI w))) (up2 IM 0 0 0)) else if nI k = 2 then (M_hears (up2 IM 0 0 0) (nI w) (fun r9 => Q r9 (up2 IM 0 0 0))) else if nI k = 3 then (if r7 ≤ 1024 then Q r7 (up2 IM 0 0 0) else Q (-1) (up2 IM 0 0 0)) else (vp_in (nI w) 8 ∧ Q ((up2 IM 0 0 0) 4 (nx (nI w))) (up2 IM 0 0 0)))) → M_isWearer IM (nI w) (fun r1 I2 => if r1 = 0 then Q 0 I2 else if nI k < 0 then M_about_b22 I2 (nI w) (nI k) Q else if 4 < nI k then M_about_b22 I2 (nI w) (nI k) Q else M_about_b23 I2 (nI w) (nI k) 1 Q) := by
        intro Q hq
        refine M_isWearer_y R.1.1 n8 hw (ie (by decide) (ie (nI_pos (by omega)) (ie (nI_nlt (a := 4) hk (by omega)) ?_)))
        unfold M_about_b23
        exact M_right_y (up00 _ _) (ie (by decide) hq)
      rcases (show k = 0 ∨ k = 1 ∨ k = 2 ∨ k = 3 ∨ k = 4 by omega) with rfl | rfl | rfl | rfl | rfl
      · refine it rfl ⟨vin (by omega) (by omega), hro, my (M_viewsOf_k (MN0 R.1) hw (it rfl ⟨vin (by omega) (by omega), fin_ok B0 f0 (up00 _ _) ?_⟩))⟩
        rw [nx_nI (by omega), f0 _ _ (by omega), R.1.2.2.1 w hw]; exact N.2.2.2.1 w hw
      · refine ie (by decide) (it rfl ⟨vin (by omega) (by omega), hro, my (M_viewsOf_k (MN0 R.1) hw (ie (by decide) (it rfl ⟨vin (by omega) (by omega), fin_ok B0 f0 (up00 _ _) ?_⟩)))⟩)
        rw [nx_nI (by omega), f0 _ _ (by omega), R.1.2.2.2.1 w hw]; exact N.2.2.2.2.1 w hw
      · refine ie (by decide) (ie (by decide) (it rfl ⟨vin (by omega) (by omega), hro, my (M_viewsOf_k (MN0 R.1) hw (ie (by decide) (ie (by decide) (it rfl (M_hears_k (MN0 R.1) hw (fin_ok B0 f0 (up00 _ _) ?_))))))⟩))
        rw [nx_nI (by omega)]; exact N.2.2.2.2.2.1 w hw
      · refine ie (by decide) (ie (by decide) (ie (by decide) (it rfl ⟨vin (by omega) (by omega), hro, my (M_viewsOf_k (MN0 R.1) hw (ie (by decide) (ie (by decide) (ie (by decide) (it rfl ?_)))))⟩)))
        rw [nx_nI (by omega), N.2.2.2.2.2.2.1 w hw]
        unfold vwi vwc
        by_cases hv : avw a w ≤ 1024
        · have hv' : vw (an a) (aq a) (alk a) (ard a) w ≤ 1024 := hv
          rw [if_pos hv, if_pos hv']
          exact it (nI_le (b := 1024) hv' (by omega)) (fin_ok B0 f0 (up00 _ _) rfl)
        · have hv' : ¬ vw (an a) (aq a) (alk a) (ard a) w ≤ 1024 := hv
          rw [if_neg hv, if_neg hv']
          exact ie (by decide) (fin_ok B0 f0 (up00 _ _) rfl)
      · refine ie (by decide) (ie (by decide) (ie (by decide) (ie (by decide) (it rfl (Net_kind_k W N C hw ⟨hro, my (M_viewsOf_k (MN0 R.1) hw (ie (by decide) (ie (by decide) (ie (by decide) (ie (by decide) ⟨vin (by omega) (by omega), fin_ok B0 f0 (up00 _ _) ?_⟩)))))⟩)))))
        rw [nx_nI (by omega), f0 _ _ (by omega)]; exact (R.2.2 w hw).1.symm
    · refine ie (xno (n := 4) (k := 0) (by omega) hx2 (by omega)) (ie (xno (n := 4) (k := 1) (by omega) hx2 (by omega)) (ie (xno (n := 4) (k := 2) (by omega) hx2 (by omega)) (ie (xno (n := 4) (k := 3) (by omega) hx2 (by omega)) (ie (xno (n := 4) (k := 4) (by omega) hx2 (by omega)) ⟨hro, M_isWearer_y R.1.1 n8 hw (ie (by decide) ?_)⟩))))
      unfold M_about_b22 M_about_b23
      rcases hx2 with h0 | ⟨h0, h9⟩
      · exact it h0 (M_right_n (up00 _ _) (it rfl (fin_no B0 (Fr01 IM) (up00' _))))
      · exact ie h0 (it h9 (M_right_n (up00 _ _) (it rfl (fin_no B0 (Fr01 IM) (up00' _)))))
  · exact H_need_n N.1 hx ⟨hro, M_isWearer_n R.1.1 hx (it rfl (fin_no B0 (Fr01 IM) (up00' _)))⟩
