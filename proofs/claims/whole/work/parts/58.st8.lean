/-! tell, count -/
def tellT (a : AN) (w v g : Nat) : Nat → Nat := upn (if akd a w = 0 then atb a w else fun _ => 0) v g
theorem M_tell_n {IM : HI} {a : AN} (W : WF a) (R : RepM IM a) {w : Nat} {x y : Int32} (hw : w < an a) (hn : ¬ avw a w ≤ 1024 ∨ (x < 0 ∨ (¬ x < 0 ∧ nI (avw a w) ≤ x)) ∨ (y < 0 ∨ (¬ y < 0 ∧ nI (aq a) < y))) {Q : Int32 → HI → Prop} (h : Q 0 (up2 IM 0 0 0)) : M_tell IM (nI w) x y Q := by
  have n8 := W.2.1
  unfold M_tell
  refine M_isWearer_y R.1.1 n8 hw (ie (by decide) (M_viewsOf_k (MN0 R.1) hw ?_))
  unfold vwc
  by_cases hv : avw a w ≤ 1024
  · have hv' : vw (an a) (aq a) (alk a) (ard a) w ≤ 1024 := hv
    rw [if_pos hv', nlit1024]
    refine ie (nI_nlt hv' (by omega)) ?_
    by_cases x0 : x < 0
    · exact it x0 h
    · refine ie x0 ?_
      by_cases x9 : nI (avw a w) ≤ x
      · exact it x9 h
      · refine ie x9 ?_
        rcases hn with hn | hn | hn
        · exact absurd hv hn
        · rcases hn with hn | hn
          · exact absurd hn x0
          · exact absurd hn.2 x9
        · unfold M_within
          rw [show (up2 IM 0 0 0) 0 2 = nI (aq a) from (Fr0 IM 0 _ _ (by omega)).trans R.1.2.1]
          rcases hn with hn | ⟨h0, hn⟩
          · exact it hn (it rfl h)
          · exact ie h0 (it hn (it rfl h))
  · have hv' : ¬ vw (an a) (aq a) (alk a) (ard a) w ≤ 1024 := hv
    rw [if_neg hv']
    exact it (by decide) h
theorem M_tell_y {IM : HI} {a : AN} (W : WF a) (R : RepM IM a) {w v g : Nat} (hw : w < an a) (hv : avw a w ≤ 1024) (hvv : v < avw a w) (hg : g ≤ aq a) {Q : Int32 → HI → Prop} (h : ∀ IM', RepM IM' (aTab a w (tellT a w v g)) → IM' 0 0 = 0 → (∀ b i, RM b i → IM' b i = IM b i) → Q 1 (up2 IM' 0 40 0)) : M_tell IM (nI w) (nI v) (nI g) Q := by
  have n8 := W.2.1
  have q4 := W.2.2.2.1
  have k2 := W.kd hw
  have hv' : vw (an a) (aq a) (alk a) (ard a) w ≤ 1024 := hv
  unfold M_tell
  refine M_isWearer_y R.1.1 n8 hw (ie (by decide) (M_viewsOf_k (MN0 R.1) hw ?_))
  unfold vwc
  rw [if_pos hv', nlit1024]
  refine ie (nI_nlt hv' (by omega)) (ie (nI_pos (by omega)) (ie (nI_ge hvv (by omega)) ?_))
  rw [Fr0 IM 0 _ _ (by omega), R.1.2.1]
  refine M_within_c (by omega) (fun k _ _ => ie (by decide) ⟨vin (by omega) (by omega), ?_⟩) (fun hn => ?_)
  · rw [nx_nI (by omega), Fr0 IM 0 _ _ (by omega), (R.2.2 w hw).1]
    refine ic (fun hc => ?_) (fun hc => ?_)
    · rw [nlit0, nI_eq (by omega) (by omega)] at hc
      unfold M_tell_b63
      rw [nlit1024, nM, nI_add]
      refine ⟨vin (by omega) (by omega), ?_⟩
      rw [nx_nI (by omega)]
      have f : Fr (fun b i => b = 0 ∧ i = 0 ∨ b = 5 ∧ i = 1024 * w + v) IM (up2 (up2 IM 0 0 0) 5 (1024 * w + v) (nI g)) := ((Fr0 IM 0).mono (fun b i hb => Or.inl hb)).up (by omega)
      refine h _ ?_ (by rw [up2_get, if_neg (by omega), up00]) (fun b i hb => f _ _ (by unfold RM at hb; omega))
      have R0 : RepM (up2 IM 0 0 0) a := R.eq (fun b i hb => Fr0 IM 0 _ _ (by omega))
      refine RepM_tab W R0 hw (Fr.rf.up (by omega)) ?_ (fun v' hv2 => ?_)
      · rw [up2_get, if_neg (by omega), Fr0 IM 0 _ _ (by omega), (R.2.2 w hw).1, hc]; rfl
      · unfold tellT upn
        rw [if_pos hc, up2_get]
        by_cases e : v' = v
        · subst e; rw [if_pos ⟨rfl, rfl⟩, if_pos rfl]
        · rw [if_neg (by omega), if_neg e]; exact (R0.2.2 w hw).2.1 hc v' hv2
    · rw [nlit0, nI_eq (by omega) (by omega)] at hc
      refine M_blank_k (MN0 R.1) hw (fun IM' f hz hkd => ?_)
      unfold M_tell_b63
      rw [nlit1024, nM, nI_add]
      refine ⟨vin (by omega) (by omega), ?_⟩
      rw [nx_nI (by omega)]
      have R0 : RepM (up2 IM 0 0 0) a := R.eq (fun b i hb => Fr0 IM 0 _ _ (by omega))
      have f2 : Fr (fun b i => b = 4 ∧ i = w ∨ b = 5 ∧ 1024 * w ≤ i ∧ i < 1024 * w + 1024) (up2 IM 0 0 0) (up2 IM' 5 (1024 * w + v) (nI g)) := (f.mono (fun b i hb => by unfold bP at hb; omega)).up (by omega)
      refine h _ (RepM_tab W R0 hw f2 ?_ (fun v' hv2 => ?_)) ?_ (fun b i hb => ?_)
      · rw [up2_get, if_neg (by omega), hkd, if_pos hv']; rfl
      · unfold tellT upn
        rw [if_neg hc, up2_get]
        by_cases e : v' = v
        · subst e; rw [if_pos ⟨rfl, rfl⟩, if_pos rfl]
        · rw [if_neg (by omega), if_neg e]; exact hz v' (by omega)
      · rw [f2 _ _ (by omega), up00]
      · rw [f2 _ _ (by unfold RM at hb; omega)]; exact Fr0 IM 0 _ _ (by unfold RM at hb; omega)
  · rcases hn with hn | ⟨_, hn⟩
    · exact absurd hn (nI_pos (by omega))
    · exact absurd hn (nI_nlt hg (by omega))
theorem st_tell {ro : Nat} {x1 x2 x3 : Int32} {I : HI} {J : HJ} {T F : HR} {L : HL} {IM : HI} {JM : HJ} (hI : Inv ro (I, J, T, F, L) IM JM) : St_tell x1 x2 x3 I J T F L ro IM JM (Inv ro) := by
  obtain ⟨own, h, a, B⟩ := Inv_el hI
  have B0 := B
  obtain ⟨W, R, N, C, b5, b6, b7⟩ := B
  have hro := b7.1.2.2.2.1
  have n8 := W.2.1
  have q4 := W.2.2.2.1
  have nz := nz_own b7.1
  unfold St_tell L_tell H_tell
  rcases wcase x1 (an a) (by omega) with ⟨w, hw, rfl⟩ | hx
  · refine H_need_y N.1 n8 hw ?_
    have no : ∀ {rb : Int32}, rb = 0 → M_thrown (up2 IM 0 0 0) (fun rt => rt = 0 ∧ ((0 : Int32) = 0 → (I, up2 J ro 0 0, T, F, L).2.1 ro 0 = if rb = 0 then 0 else 1) ∧ Inv ro (I, up2 J ro 0 0, T, F, L) (up2 IM 0 0 0) JM) := fun e => by
      unfold M_thrown
      exact ⟨up00 _ _, fun _ => by rw [if_pos e]; exact up2_same J ro 0 0, Inv_mk (B0.thr (Fr0 IM 0))⟩
    rw [nx_nI (by omega), N.2.2.2.2.2.2.1 w hw, N.2.1]
    by_cases x0 : x2 < 0
    · exact it x0 (it rfl ⟨hro, M_tell_n W R hw (Or.inr (Or.inl (Or.inl x0))) (no rfl)⟩)
    · refine ie x0 ⟨vin (by omega) (by omega), ?_⟩
      obtain ⟨v, hv0, rfl⟩ := nI_of x0
      by_cases hv : avw a w ≤ 1024
      · have ew : vwi (avw a w) = nI (avw a w) := if_pos hv
        rw [ew]
        by_cases hvv : v < avw a w
        · refine ie (nI_ge hvv (by omega)) ?_
          rcases xcase x3 (n := aq a) (by omega) with ⟨g, hg, rfl⟩ | hx3
          · refine ie (nI_pos (by omega)) (it (nI_le hg (by omega)) ⟨vin (by omega) (by omega), ?_⟩)
            have fin : ∀ I' T', Fr (nP 1) I I' → CN I' 1 (aTab a w (tellT a w v g)) → CT I' T' F L own 1 (aTab a w (tellT a w v g)) → (∀ b i, b ≠ 7 → T' b i = T b i) → (ro, 4, 1) ∈ (up2 I' 26 1 0, up2 J ro 0 1, T', F, L).2.2.2.2 ∧ M_tell IM (nI w) (nI v) (nI g) (fun rb IM2 => M_thrown IM2 fun rt => rt = 0 ∧ ((0 : Int32) = 0 → (up2 I' 26 1 0, up2 J ro 0 1, T', F, L).2.1 ro 0 = if rb = 0 then 0 else 1) ∧ Inv ro (up2 I' 26 1 0, up2 J ro 0 1, T', F, L) IM2 JM) := by
              intro I' T' f N' C' ft
              refine ⟨hro, M_tell_y W R hw hv hvv hg (fun IM' R' e0 fm => ?_)⟩
              unfold M_thrown
              refine ⟨by rw [up2_get, if_neg (by omega)]; exact e0, fun _ => (up2_same J ro 0 1).trans (by decide), Inv_mk (B0.net (aTab_WF W hv (fun k hk => ?_)) R' N' C' f ft fm)⟩
              unfold tellT upn
              split
              · exact hg
              · split
                · exact (W.2.2.2.2.2 w hw).2.2.2.2 (by assumption) k hk
                · exact Nat.zero_le _
            refine ⟨fun ht => ?_, fun f9 ht => ?_⟩
            · have k1 : akd a w ≠ 1 := by
                rcases C.2.2 w hw with g9 | ⟨g9, f, g1, _⟩
                · exact g9.1
                · have ht : T (1 + 6) w = none := ht
                  rw [ht] at g1; cases g1
              have k0 : akd a w = 0 := by rw [W.kd01 hw k1, if_pos hv]
              unfold H_tell_b59 Net_setGuess Led_spoil
              rw [nlit1024, nM, nI_add, Nat.mul_comm w]
              refine ⟨vin (by omega) (by omega), ie (by decide) ?_⟩
              rw [nx_nI (by omega), (byt_k g (by omega)).2]
              have fI : Fr (fun b i => b = 1 + 7 ∧ i = 1024 * w + v) I (up2 I (1 + 7) (1024 * w + v) (nI g)) := Fr.rf.up ⟨rfl, rfl⟩
              refine fin _ T (fI.mono (fun b i hb => by unfold nP; omega)) (CN_tab W N hw (fI.mono (fun b i hb => by omega)) (fun i hi => ?_) (fun v' hv2 => ?_)) (CT_tab W C (fun b i hb => fI _ _ (by have := nz b; omega)) hw ht (fun _ _ => rfl)) (fun _ _ _ => rfl)
              · rw [up2_get]; split
                · exact (byt_k g (by omega)).1
                · exact N.2.2.2.2.2.2.2.2.1 i hi
              · unfold tellT upn
                rw [if_pos k0, up2_get]
                by_cases e : v' = v
                · subst e; rw [if_pos ⟨rfl, rfl⟩, if_pos rfl]
                · rw [if_neg (by omega), if_neg e]; exact N.2.2.2.2.2.2.2.2.2 w hw k0 v' hv2
            · have k1 : akd a w = 1 := by
                rcases C.2.2 w hw with g9 | ⟨g9, f, g1, _⟩
                · have ht : T (1 + 6) w = some f9 := ht
                  rw [g9.2] at ht; cases ht
                · exact g9
              unfold Net_startTable
              refine ⟨vin (by omega) (by omega), Net_clearTable_k N.1 N.2.1 (N.2.2.2.1 w hw) (N.2.2.2.2.2.1 w hw) (W.2.2.2.2.2 w hw).1 (hr_lt _ _ _) n8 W.2.2.1 q4 (by omega) (fun I1 f1 ho hvv1 hz => ?_)⟩
              have hz : ∀ k, k < avw a w → I1 (1 + 7) (1024 * w + k) = 0 := hz hv
              have hv1 : I1 (1 + 4) w = vwi (avw a w) := hvv1
              unfold H_tell_b59 Net_setGuess Led_spoil
              rw [nlit1024, nM, nI_add, Nat.mul_comm w]
              refine ⟨vin (by omega) (by omega), ie (by decide) ?_⟩
              rw [nx_nI (by omega), nx_nI (by omega), (byt_k g (by omega)).2]
              have f2 : Fr (ctP 1 w) I (up2 I1 (1 + 7) (1024 * w + v) (nI g)) := f1.up (Or.inr ⟨rfl, by omega, by omega⟩)
              have f3 : Fr (fun b i => b = 1 + 7 ∧ 1024 * w ≤ i ∧ i < 1024 * w + 1024) I (up2 I1 (1 + 7) (1024 * w + v) (nI g)) := by
                intro b i hb
                by_cases e : b = 1 + 4 ∧ i = w
                · rw [e.1, e.2, up2_get, if_neg (by omega), hv1, N.2.2.2.2.2.2.1 w hw]
                · exact f2 b i (by unfold ctP; omega)
              refine fin _ _ (f2.mono ctP_n) (CN_tab W N hw f3 (fun i hi => ?_) (fun v' hv2 => ?_)) (CT_tab W C (fun b i hb => f2 _ _ (by have := nz b; unfold ctP; omega)) hw (up2_same _ _ _ _) (fun k hk => by rw [up2_get, if_neg (by omega)])) (fun b i hb => by rw [up2_get, if_neg (by omega)])
              · rw [up2_get]; split
                · exact (byt_k g (by omega)).1
                · rcases ho i with h9 | h9
                  · rw [h9]; exact N.2.2.2.2.2.2.2.2.1 i hi
                  · rw [h9]; exact byt0
              · unfold tellT upn
                rw [if_neg (show ¬ akd a w = 0 by omega), up2_get]
                by_cases e : v' = v
                · subst e; rw [if_pos ⟨rfl, rfl⟩, if_pos rfl]
                · rw [if_neg (by omega), if_neg e]; exact hz v' hv2
          · have m := @M_tell_n IM a W R w (nI v) x3 hw (Or.inr (Or.inr hx3))
            rcases hx3 with h0 | ⟨h0, h9⟩
            · exact it h0 (it rfl ⟨hro, m (no rfl)⟩)
            · exact ie h0 (ie (nle_of_lt h9) (it rfl ⟨hro, m (no rfl)⟩))
        · exact it (nI_le (by omega) hv0) (it rfl ⟨hro, M_tell_n W R hw (Or.inr (Or.inl (Or.inr ⟨x0, nI_le (by omega) hv0⟩))) (no rfl)⟩)
      · have ew : vwi (avw a w) = -1 := if_neg hv
        rw [ew]
        refine it ?_ (it rfl ⟨hro, M_tell_n W R hw (Or.inl hv) (no rfl)⟩)
        rw [Int32.le_iff_toInt_le, nI_toInt hv0]
        have : (-1 : Int32).toInt = -1 := rfl
        omega
  · unfold M_tell
    exact H_need_n N.1 hx ⟨hro, M_isWearer_n R.1.1 hx (it rfl (fin_no B0 (Fr01 IM) (up00' _)))⟩
