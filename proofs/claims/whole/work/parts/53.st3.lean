/-! round -/
def RJ (IM I : HI) (a : AN) (w ρ i : Nat) : Prop := MN I (an a) (aq a) (alk a) (rdn a w ρ) ∧ I 0 3 = nI (aq a ^ an a) ∧ (∀ k, k < an a → I 9 k = nI (hr (an a) (ard a) k)) ∧ (∀ k, k < an a → k < i → kfact I (aRound a w ρ) k) ∧ (∀ k, k < an a → i ≤ k → kfact I a k) ∧ I 0 0 = 0 ∧ ∀ b j, RM b j → I b j = IM b j
theorem kfact.eq {I I' : HI} {b : AN} {k : Nat} (g : kfact I b k) (h : ∀ x i, x = 4 ∧ i = k ∨ x = 5 ∧ 1024 * k ≤ i ∧ i < 1024 * k + 1024 ∨ 6 ≤ x ∧ x ≤ 8 → I' x i = I x i) (hv : akd b k = 0 → avw b k ≤ 1024) : kfact I' b k := by
  obtain ⟨g1, g2, g3⟩ := g
  refine ⟨(h _ _ (by omega)).trans g1, fun h0 v hvk => ?_, fun q => (g3 q).eq (fun x i h6 h8 => h _ _ (by omega))⟩
  have := hv h0
  rw [h _ _ (by omega)]; exact g2 h0 v hvk
theorem M_round_l2 {IM : HI} {a : AN} {w ρ : Nat} (W : WF a) (hρ : ρ ≤ 7) {Q : Int32 → HI → Prop} (h : ∀ I', RepM I' (aRound a w ρ) → I' 0 0 = 0 → (∀ b j, RM b j → I' b j = IM b j) → Q 1 (up2 I' 0 40 0)) : ∀ d i I, i + d = an a → RJ IM I a w ρ i → M_round_l58 Q (d + 1) I (nI i) := by
  have W2 := aRound_WF (w := w) W hρ
  obtain ⟨w1, w2, w3, w4, w5, w6⟩ := id W
  have h256 := p2le w2
  intro d
  induction d with
  | zero =>
    intro i I hi R
    obtain ⟨N, e3, e9, k1, k2, e0, fm⟩ := R
    rw [M_round_l58, N.1]
    exact it (nI_le (by omega) (by omega)) (h I ⟨N, e3, fun k hk => k1 k hk (by have : k < an a := hk; omega)⟩ e0 fm)
  | succ d ih =>
    intro i I hi R
    obtain ⟨N, e3, e9, k1, k2, e0, fm⟩ := R
    have hin : i < an a := by omega
    obtain ⟨g1, g2, g3⟩ := k2 i hin (Nat.le_refl _)
    rw [M_round_l58, N.1]
    refine ie (nI_ge (by omega) (by omega)) ⟨vin (by omega) (by omega), ?_⟩
    rw [nx_nI (by omega), g1]
    simp only [nI_1]
    have hk2 : akd a i ≤ 2 := by
      rcases (w6 i hin).2.2.2.1 with g | g
      · omega
      · rw [g]; split <;> omega
    refine ic (fun hc => ?_) (fun hc => ?_)
    · rw [nlit1, nI_eq (by omega) (by omega)] at hc
      refine ih (i + 1) I (by omega) ⟨N, e3, e9, fun k hk hki => ?_, fun k hk hki => k2 k hk (by omega), e0, fm⟩
      by_cases e : k = i
      · subst e
        have kk := (aRound_kd1 a w ρ k).mpr hc
        unfold kfact
        rw [kk]
        exact ⟨by rw [g1, hc], fun q => by omega, fun _ => g3 hc⟩
      · exact k1 k hk (by omega)
    · rw [nlit1, nI_eq (by omega) (by omega)] at hc
      refine ⟨vin (by omega) (by omega), M_hears_k N hin ?_⟩
      rw [e9 i hin]
      have l1 := hr_lt (an a) (ard a) i
      have l2 := hr_lt (an a) (rdn a w ρ) i
      refine ic (fun hs => ?_) (fun hs => ?_)
      · rw [nI_eq (by omega) (by omega)] at hs
        have hs : same a w ρ i := hs
        refine ih (i + 1) I (by omega) ⟨N, e3, e9, fun k hk hki => ?_, fun k hk hki => k2 k hk (by omega), e0, fm⟩
        by_cases e : k = i
        · subst e
          have ev : avw (aRound a w ρ) k = avw a k := (aR_v a w ρ k).trans (vw_same hs)
          unfold kfact
          rw [ev, aR_k hs, aR_t hs]
          exact ⟨g1, g2, g3⟩
        · exact k1 k hk (by omega)
      · rw [nI_eq (by omega) (by omega)] at hs
        have hs : ¬ same a w ρ i := hs
        refine M_blank_k N hin (fun I' f hz hkd => ?_)
        have fb : ∀ x j, (¬ (x = 4 ∧ j = i) ∧ ¬ (x = 5 ∧ 1024 * i ≤ j ∧ j < 1024 * i + 1024)) → I' x j = I x j := fun x j hx => f x j (by unfold bP; omega)
        refine ih (i + 1) I' (by omega) ⟨N.fr f (by unfold bP; omega) (by unfold bP; omega) (fun _ _ => by unfold bP; omega) (fun _ _ => by unfold bP; omega), (fb _ _ (by omega)).trans e3, fun k hk => (fb _ _ (by omega)).trans (e9 k hk), fun k hk hki => ?_, fun k hk hki => (k2 k hk (by omega)).eq (fun x j hx => fb _ _ (by omega)) (W.k1 k hk), (fb _ _ (by omega)).trans e0, fun b j hb => (fb _ _ (by unfold RM at hb; omega)).trans (fm b j hb)⟩
        by_cases e : k = i
        · subst e
          have kk : akd (aRound a w ρ) k = if vw (an a) (aq a) (alk a) (rdn a w ρ) k ≤ 1024 then 0 else 2 := by
            show (if same a w ρ k then akd a k else if akd a k = 1 then 1 else _) = _
            rw [if_neg hs, if_neg hc]
          unfold kfact
          rw [aR_v, kk, aR_t0 hs]
          refine ⟨hkd, fun h0 v hv => ?_, fun q => ?_⟩
          · refine hz v ?_
            by_cases h9 : vw (an a) (aq a) (alk a) (rdn a w ρ) k ≤ 1024
            · omega
            · rw [if_neg h9] at h0; omega
          · split at q <;> omega
        · exact (k1 k hk (by omega)).eq (fun x j hx => fb _ _ (by omega)) (W2.k1 k hk)
theorem M_round_l1 {IM : HI} {a : AN} {w ρ : Nat} (W : WF a) (R : RepM IM a) (hw : w < an a) (hρ : ρ ≤ 7) {Q : Int32 → HI → Prop} (h : ∀ I', RepM I' (aRound a w ρ) → I' 0 0 = 0 → (∀ b j, RM b j → I' b j = IM b j) → Q 1 (up2 I' 0 40 0)) : ∃ nn, M_round_l24 (nI w) (nI ρ) Q nn (up2 IM 0 0 0) 0 := by
  have w2 := W.2.1
  have key : ∀ d i I, i + d = an a → Fr (fun b j => b = 0 ∧ j = 0 ∨ b = 9) IM I → I 0 0 = 0 → (∀ k, k < i → I 9 k = nI (hr (an a) (ard a) k)) → M_round_l24 (nI w) (nI ρ) Q (d + 1) I (nI i) := by
    intro d
    induction d with
    | zero =>
      intro i I hi f e0 h9
      have N : MN I (an a) (aq a) (alk a) (ard a) := R.1.fr f (by omega) (by omega) (fun _ _ => by omega) (fun _ _ => by omega)
      rw [M_round_l24, N.1]
      refine it (nI_le (by omega) (by omega)) ⟨vin (by omega) (by omega), an a + 1, ?_⟩
      rw [nx_nI (by omega)]
      have f1 : Fr (fun b j => b = 0 ∧ j = 0 ∨ b = 9 ∨ b = 3 ∧ j = w) IM (up2 I 3 w (nI ρ)) := (f.mono (fun b j hb => by omega)).up (by omega)
      have W2 := aRound_WF (w := w) W hρ
      refine M_round_l2 W hρ h (an a) 0 _ (by omega) ⟨⟨(f1 _ _ (by omega)).trans R.1.1, (f1 _ _ (by omega)).trans R.1.2.1, fun k hk => (f1 _ _ (by omega)).trans (R.1.2.2.1 k hk), fun k hk => ?_, R.1.2.2.2.2.1, w2, R.1.2.2.2.2.2.2.1, R.1.2.2.2.2.2.2.2.1, R.1.2.2.2.2.2.2.2.2.1, fun k hk => (W2.2.2.2.2.2 k hk).2.2.1⟩, (f1 _ _ (by omega)).trans R.2.1, fun k hk => ?_, fun k hk hki => by omega, fun k hk _ => ?_, ?_, fun b j hb => f1 _ _ (by unfold RM at hb; omega)⟩
      · unfold rdn upn
        by_cases e : k = w
        · subst e; rw [if_pos rfl, up2_same]
        · rw [if_neg e, f1 _ _ (by omega)]; exact R.1.2.2.2.1 k hk
      · rw [up2_get, if_neg (by omega)]; exact h9 k (by omega)
      · exact kfact.eq (I := IM) (R.2.2 k hk) (fun x j hx => f1 _ _ (by omega)) (W.k1 k hk)
      · rw [up2_get, if_neg (by omega)]; exact e0
    | succ d ih =>
      intro i I hi f e0 h9
      have N : MN I (an a) (aq a) (alk a) (ard a) := R.1.fr f (by omega) (by omega) (fun _ _ => by omega) (fun _ _ => by omega)
      rw [M_round_l24, N.1]
      refine ie (nI_ge (by omega) (by omega)) (M_hears_k N (by omega) ⟨vin (by omega) (by omega), ?_⟩)
      rw [nx_nI (by omega), nI_1]
      refine ih (i + 1) _ (by omega) (f.up (Or.inr rfl)) (by rw [up2_get, if_neg (by omega)]; exact e0) (fun k hk => ?_)
      rw [up2_get]
      by_cases e : k = i
      · rw [if_pos ⟨rfl, e⟩, e]
      · rw [if_neg (by omega)]; exact h9 k (by omega)
  exact ⟨an a + 1, key (an a) 0 _ (by omega) ((Fr0 IM 0).mono (fun b j hb => Or.inl hb)) (up00 _ _) (fun k hk => by omega)⟩
theorem M_within_c {x : Int32} {n : Nat} (hn : n < 2 ^ 31) {Q : Int32 → Prop} (hy : ∀ k, k ≤ n → x = nI k → Q 1) (hno : (x < 0 ∨ (¬ x < 0 ∧ nI n < x)) → Q 0) : M_within x 0 (nI n) Q := by
  unfold M_within
  refine ic (fun hc => hno (Or.inl hc)) (fun hc => ic (fun h2 => hno (Or.inr ⟨hc, h2⟩)) (fun h2 => ?_))
  obtain ⟨k, hk, rfl⟩ := nI_of hc
  rw [nI_ltI hn hk] at h2
  exact hy k (by omega) rfl
theorem st_round {ro : Nat} {x1 x2 : Int32} {I : HI} {J : HJ} {T F : HR} {L : HL} {IM : HI} {JM : HJ} (hI : Inv ro (I, J, T, F, L) IM JM) : St_round x1 x2 I J T F L ro IM JM (Inv ro) := by
  obtain ⟨own, h, a, B⟩ := Inv_el hI
  have B0 := B
  obtain ⟨W, R, N, C, b5, b6, b7⟩ := B
  have hro := b7.1.2.2.2.1
  have n8 := W.2.1
  unfold St_round L_round H_round M_round
  rcases wcase x1 (an a) (by omega) with ⟨w, hw, rfl⟩ | hx
  · refine H_need_y N.1 n8 hw ?_
    by_cases hr : ∃ ρ, ρ ≤ 7 ∧ x2 = nI ρ
    · obtain ⟨ρ, hρ, rfl⟩ := hr
      refine ie (nI_pos (by omega)) (it (nI_le (b := 7) hρ (by omega)) (Net_guessIn_k W N C hw hρ (fun I' f N' C' => ?_)))
      unfold Led_spoil
      refine ie (by decide) ⟨hro, M_isWearer_y R.1.1 n8 hw (ie (by decide) (M_within_c (n := 7) (by omega) (fun k hk e => ie (by decide) (M_round_l1 W R hw hρ (fun IM' R' e0 fm => ?_))) (fun hx => ?_)))⟩
      · unfold M_thrown
        exact ⟨by rw [up2_get, if_neg (by omega)]; exact e0, fun _ => (up2_same J ro 0 1).trans (by decide), Inv_mk (B0.net (aRound_WF W hρ) R' N' C' f (fun _ _ _ => rfl) fm)⟩
      · rcases hx with hx | ⟨_, hx⟩
        · exact absurd hx (nI_pos (by omega))
        · exact absurd hx (nI_nlt hρ (by omega))
    · have no : x2 < 0 ∨ (¬ x2 < 0 ∧ nI 7 < x2) := by
        by_cases h0 : x2 < 0
        · exact Or.inl h0
        · obtain ⟨k, hk, rfl⟩ := nI_of h0
          refine Or.inr ⟨h0, nI_lt ?_ hk⟩
          by_cases h9 : k ≤ 7
          · exact absurd ⟨k, h9, rfl⟩ hr
          · omega
      have m : (ro, 4, 1) ∈ L ∧ M_isWearer IM (nI w) (fun r1 I2 => if r1 = 0 then (M_thrown I2 fun rt => rt = 0 ∧ ((0 : Int32) = 0 → (up2 J ro 0 0) ro 0 = if (0 : Int32) = 0 then 0 else 1) ∧ Inv ro (I, up2 J ro 0 0, T, F, L) I2 JM) else M_within x2 0 7 (fun r4 => if r4 = 0 then (M_thrown I2 fun rt => rt = 0 ∧ ((0 : Int32) = 0 → (up2 J ro 0 0) ro 0 = if (0 : Int32) = 0 then 0 else 1) ∧ Inv ro (I, up2 J ro 0 0, T, F, L) I2 JM) else ∃ nn, M_round_l24 (nI w) x2 (fun rb IM2 => M_thrown IM2 fun rt => rt = 0 ∧ ((0 : Int32) = 0 → (up2 J ro 0 0) ro 0 = if rb = 0 then 0 else 1) ∧ Inv ro (I, up2 J ro 0 0, T, F, L) IM2 JM) nn I2 0)) := by
        refine ⟨hro, M_isWearer_y R.1.1 n8 hw (ie (by decide) (M_within_c (n := 7) (by omega) (fun k hk e => absurd ⟨k, hk, e⟩ hr) (fun _ => it rfl ?_)))⟩
        unfold M_thrown
        exact ⟨up00 _ _, fun _ => (up2_same J ro 0 0).trans (by decide), Inv_mk (B0.thr (Fr0 IM 0))⟩
      rcases no with h0 | ⟨h0, h9⟩
      · exact it h0 (it rfl m)
      · refine ie h0 (ie (fun q => ?_) (it rfl m))
        rw [Int32.le_iff_toInt_le] at q
        rw [Int32.lt_iff_toInt_lt] at h9
        have e7 : (7 : Int32).toInt = (nI 7).toInt := rfl
        omega
  · refine H_need_n N.1 hx ⟨hro, M_isWearer_n R.1.1 hx (it rfl ⟨up00' _, fun q => absurd q (by decide), Inv_mk (B0.thr (Fr01 IM))⟩)⟩
