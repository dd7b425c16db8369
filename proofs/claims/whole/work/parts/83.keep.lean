/-! keep -/
theorem M_keep_3 {s : Nat} (hs : s < 4) {I0 : HI} {Q : Int32 → HI → Prop} (hQ : ∀ I, Fr (fun b i => b = 44 ∧ 8000 * s ≤ i ∧ i < 8000 * s + 8000) I0 I → (∀ k, k < 8000 → I 44 (8000 * s + k) = I0 6 k) → Q 1 I) : ∀ d i I, i + d = 8000 → Fr (fun b i => b = 44 ∧ 8000 * s ≤ i ∧ i < 8000 * s + 8000) I0 I → (∀ k, k < i → I 44 (8000 * s + k) = I0 6 k) → M_keep_l170 (nI s) Q (d + 1) I (nI i) := by
  intro d
  induction d with
  | zero =>
    intro i I hi f h
    rw [M_keep_l170, show (8000 : Int32) = nI 8000 from rfl]
    exact it (nI_le (by omega) (by omega)) (hQ I f (fun k hk => h k (by omega)))
  | succ d ih =>
    intro i I hi f h
    rw [M_keep_l170, show (8000 : Int32) = nI 8000 from rfl, nM, nI_add, nx_nI (show i < 2 ^ 31 by omega), nx_nI (show 8000 * s + i < 2 ^ 31 by omega), nI_1]
    refine ie (nI_ge (by omega) (by omega)) ⟨vin (by omega) (by omega), vin (by omega) (by omega), ih (i + 1) _ (by omega) (f.up ⟨rfl, by omega, by omega⟩) (fun k hk => ?_)⟩
    rw [up2_get]
    by_cases e : k = i
    · rw [if_pos ⟨rfl, by omega⟩, f _ _ (by omega), e]
    · rw [if_neg (by omega)]; exact h k (by omega)
theorem M_keep_2 {s : Nat} (hs : s < 4) {I0 : HI} {Q : Int32 → HI → Prop} (hQ : ∀ I, Fr (fun b i => b = 43 ∧ 8192 * s ≤ i ∧ i < 8192 * s + 8192) I0 I → (∀ k, k < 8192 → I 43 (8192 * s + k) = I0 5 k) → ∃ nn, M_keep_l170 (nI s) Q nn I 0) : ∀ d i I, i + d = 8192 → Fr (fun b i => b = 43 ∧ 8192 * s ≤ i ∧ i < 8192 * s + 8192) I0 I → (∀ k, k < i → I 43 (8192 * s + k) = I0 5 k) → M_keep_l137 (nI s) Q (d + 1) I (nI i) := by
  intro d
  induction d with
  | zero =>
    intro i I hi f h
    rw [M_keep_l137, show (8192 : Int32) = nI 8192 from rfl]
    exact it (nI_le (by omega) (by omega)) (hQ I f (fun k hk => h k (by omega)))
  | succ d ih =>
    intro i I hi f h
    rw [M_keep_l137, show (8192 : Int32) = nI 8192 from rfl, nM, nI_add, nx_nI (show i < 2 ^ 31 by omega), nx_nI (show 8192 * s + i < 2 ^ 31 by omega), nI_1]
    refine ie (nI_ge (by omega) (by omega)) ⟨vin (by omega) (by omega), vin (by omega) (by omega), ih (i + 1) _ (by omega) (f.up ⟨rfl, by omega, by omega⟩) (fun k hk => ?_)⟩
    rw [up2_get]
    by_cases e : k = i
    · rw [if_pos ⟨rfl, by omega⟩, f _ _ (by omega), e]
    · rw [if_neg (by omega)]; exact h k (by omega)
def kpd (I0 I : HI) (s i : Nat) : Prop := ∀ w, w < i → I 40 (8 * s + w) = I0 2 w ∧ I 41 (8 * s + w) = I0 3 w ∧ I 42 (8 * s + w) = I0 4 w ∧ I 45 (8 * s + w) = I0 7 w ∧ I 46 (8 * s + w) = I0 8 w
def kpP (s : Nat) : Nat → Nat → Prop := fun b i => (b = 40 ∨ b = 41 ∨ b = 42 ∨ b = 45 ∨ b = 46) ∧ 8 * s ≤ i ∧ i < 8 * s + 8
theorem M_keep_1 {s : Nat} (hs : s < 4) {I0 : HI} {Q : Int32 → HI → Prop} (hQ : ∀ I, Fr (kpP s) I0 I → kpd I0 I s 8 → ∃ nn, M_keep_l137 (nI s) Q nn I 0) : ∀ d i I, i + d = 8 → Fr (kpP s) I0 I → kpd I0 I s i → M_keep_l38 (nI s) Q (d + 1) I (nI i) := by
  intro d
  induction d with
  | zero =>
    intro i I hi f h
    have : i = 8 := by omega
    subst this
    rw [M_keep_l38, nlit8]
    exact it (nI_le (by omega) (by omega)) (hQ I f h)
  | succ d ih =>
    intro i I hi f h
    rw [M_keep_l38, nlit8, nM, nI_add, nx_nI (show i < 2 ^ 31 by omega), nx_nI (show 8 * s + i < 2 ^ 31 by omega), nI_1]
    have v1 : vp_in (nI (8 * s + i)) 32 := vin (by omega) (by omega)
    have v2 : vp_in (nI i) 8 := vin (by omega) (by omega)
    refine ie (nI_ge (by omega) (by omega)) ⟨v2, v1, v2, v1, v2, v1, v2, v1, v2, v1, ?_⟩
    show M_keep_l38 (nI s) Q (d + 1) (kpx I (8 * s + i) i) (nI (i + 1))
    obtain ⟨t1, t2, t3, t4, t5⟩ := kpx_v I (8 * s + i) i
    refine ih (i + 1) _ (by omega) (fun b j hn => ?_) (fun w hw => ?_)
    · unfold kpP at hn
      rw [kpx_o (by omega)]; exact f b j hn
    · by_cases e : w = i
      · subst e
        rw [t1, t2, t3, t4, t5, f _ _ (by unfold kpP; omega), f _ _ (by unfold kpP; omega), f _ _ (by unfold kpP; omega), f _ _ (by unfold kpP; omega), f _ _ (by unfold kpP; omega)]
        exact ⟨rfl, rfl, rfl, rfl, rfl⟩
      · rw [kpx_o (by omega), kpx_o (by omega), kpx_o (by omega), kpx_o (by omega), kpx_o (by omega)]; exact h w (by omega)
theorem M_keep_y {IM : HI} {s : Nat} {a : AN} (hs : s < 4) (W : WF a) (R : RepM IM a) {Q : Int32 → HI → Prop} (hQ : ∀ IM', Fr (fun b i => b = 0 ∧ i = 0 ∨ SC s b i) IM IM' → RepS IM' s a → Q 1 IM') : M_keep IM (nI s) Q := by
  obtain ⟨w1, w2, w3, w4, w5, w6⟩ := id W
  unfold M_keep M_within
  have k0 := Fr0 IM 0
  rw [nx_nI (by omega)]
  generalize hI1 : up2 (up2 (up2 IM 0 0 0) 38 s ((up2 IM 0 0 0) 0 1)) 39 s ((up2 (up2 IM 0 0 0) 38 s ((up2 IM 0 0 0) 0 1)) 0 2) = I1
  have f1 : Fr (fun b i => b = 0 ∧ i = 0 ∨ (b = 38 ∨ b = 39) ∧ i = s) IM I1 := by rw [← hI1]; exact ((Fr.rf.up (by omega)).up (by omega)).up (by omega)
  have e38 : I1 38 s = nI (an a) := by rw [← hI1, up2_get, if_neg (by omega), up2_same, k0 _ _ (by omega)]; exact R.1.1
  have e39 : I1 39 s = nI (aq a) := by rw [← hI1, up2_same, up2_get, if_neg (by omega), k0 _ _ (by omega)]; exact R.1.2.1
  refine ie (nI_pos (by omega)) (ie (nI_nlt (a := 3) (by omega) (by omega)) (ie (by decide) ⟨vin (by omega) (by omega), vin (by omega) (by omega), 9, M_keep_1 hs (fun I4 f4 h4 => ⟨8193, M_keep_2 hs (fun I5 f5 h5 => ⟨8001, M_keep_3 hs (fun I6 f6 h6 => ?_) 8000 0 I5 (by omega) Fr.rf (fun k hk => by omega)⟩) 8192 0 I4 (by omega) Fr.rf (fun k hk => by omega)⟩) 8 0 I1 (by omega) Fr.rf (fun w hw => by omega)⟩))
  have c6 : ∀ x i, x ≠ 43 → x ≠ 44 → I6 x i = I4 x i := fun x i h1 h2 => (f6 _ _ (by omega)).trans (f5 _ _ (by omega))
  have c4 : ∀ x i, 2 ≤ x → x ≤ 8 → I4 x i = IM x i := fun x i h1 h2 => (f4 _ _ (by unfold kpP; omega)).trans (f1 _ _ (by omega))
  have c1 : ∀ x i, 2 ≤ x → x ≤ 8 → I1 x i = IM x i := fun x i h1 h2 => f1 _ _ (by omega)
  obtain ⟨RN, r2, r3⟩ := R
  refine hQ I6 (fun x i hn => ?_) ⟨?_, ?_, fun w hw => ?_⟩
  · unfold SC at hn
    rw [f6 _ _ (by omega), f5 _ _ (by omega), f4 _ _ (by unfold kpP; omega), f1 _ _ (by omega)]
  · rw [c6 _ _ (by omega) (by omega), f4 _ _ (by unfold kpP; omega)]; exact e38
  · rw [c6 _ _ (by omega) (by omega), f4 _ _ (by unfold kpP; omega)]; exact e39
  · obtain ⟨g1, g2, g3⟩ := r3 w hw
    obtain ⟨p1, p2, p3, p4, p5⟩ := h4 w (by omega)
    refine ⟨?_, ?_, ?_, fun h0 v hv => ?_, fun h1 => ?_⟩
    · rw [c6 _ _ (by omega) (by omega), p1, c1 _ _ (by omega) (by omega)]; exact RN.2.2.1 w hw
    · rw [c6 _ _ (by omega) (by omega), p2, c1 _ _ (by omega) (by omega)]; exact RN.2.2.2.1 w hw
    · rw [c6 _ _ (by omega) (by omega), p3, c1 _ _ (by omega) (by omega)]; exact g1
    · have := W.k1 w hw h0
      have hv' : v < avw a w := hv
      rw [f6 _ _ (by omega), h5 _ (by omega), c4 _ _ (by omega) (by omega)]
      exact g2 h0 v hv
    · obtain ⟨t, t1, t2, t3, t4⟩ := g3 h1
      have hc : ∀ k, k < 8000 → I6 44 (8000 * s + k) = IM 6 k := fun k hk => by rw [h6 k hk, f5 _ _ (by omega), c4 _ _ (by omega) (by omega)]
      refine ⟨t, ?_, mco_lt (C := IM 6) (C' := fun k => I6 44 (8000 * s + k)) (B := 8000) hc _ _ (by omega) t2, t3, ?_⟩
      · rw [c6 _ _ (by omega) (by omega), p5, c1 _ _ (by omega) (by omega)]; exact t1
      · cases hc1 : (acd a w).1 with
        | none =>
          rw [hc1] at t4
          show I6 45 (8 * s + w) = -1
          rw [c6 _ _ (by omega) (by omega), p4, c1 _ _ (by omega) (by omega)]; exact t4
        | some p =>
          rw [hc1] at t4
          refine ⟨?_, mco_lt (C := IM 6) (C' := fun k => I6 44 (8000 * s + k)) (B := 8000) hc _ _ (by omega) t4.2.1, t4.2.2⟩
          rw [c6 _ _ (by omega) (by omega), p4, c1 _ _ (by omega) (by omega)]; exact t4.1
theorem LnF.own {own own' : Nat → Nat} {I : HI} {F : HR} {L : HL} (h : LnF own I F L) (ho : ∀ b, own b ≠ 0 → own' b = own b) : LnF own' I F L := by
  obtain ⟨h0, f, g, h1, h2, h3, h4⟩ := h
  exact ⟨h0, f, g, h1, h2, h3.own ho, h4.own ho⟩
theorem Slot1.fr3 {own own' : Nat → Nat} {I I' : HI} {T T' F F' : HR} {L L' : HL} {IM IM' : HI} {s : Nat} (h : Slot1 own I T F L IM s) (ho : ∀ b, own b ≠ 0 → own' b = own b) (hI : ∀ b i, own b = 2 ∨ own b = 4 + s → I' b i = I b i) (hT : ∀ b i, b = 19 ∧ i = s ∨ own b = 4 + s → T' b i = T b i) (e : Ext F L F' L') (hM : ∀ b i, SC s b i → IM' b i = IM b i) : Slot1 own' I' T' F' L' IM' s := by
  obtain ⟨hLn, h⟩ := h
  refine ⟨(hLn.fr (fun b i hb => hI b i (Or.inl hb)) e).own ho, ?_⟩
  rcases h with ⟨h1, h2⟩ | ⟨r, b, h1, h2, h3, h4, h5, h6, h7, h8⟩
  · exact Or.inl ⟨(hT _ _ (Or.inl ⟨rfl, rfl⟩)).trans h1, (hM _ _ (by unfold SC; omega)).trans h2⟩
  · have h7' : ∀ j, j ≤ 8 → own' (r + j) = 4 + s := fun j hj => (ho _ (by rw [h7 j hj]; omega)).trans (h7 j hj)
    refine Or.inr ⟨r, b, (hT _ _ (Or.inl ⟨rfl, rfl⟩)).trans h1, net_ext e h2, h3, h4.eq (fun j i hj => hI _ _ (Or.inr (h7 j hj))), (h5.fr (fun b i hb => hI _ _ (Or.inl hb)) (fun w _ => hT _ _ (Or.inr (h7 6 (by omega)))) h3.2.1 e).own ho (fun j hj => by rw [h7' j hj]; omega), h6.eq2 h3 hM, h7', h8⟩
/-- what stands before a slot is written, the slot's net there -/
def KPre (own h : Nat → Nat) (a : AN) (ro : Nat) (I : HI) (T F : HR) (L : HL) (IM : HI) (s r : Nat) : Prop := WF a ∧ RepM IM a ∧ CN I 1 a ∧ CT I T F L own 1 a ∧ WorI a IM ∧ LedI a h I ∧ Own own ro L ∧ Geo F L ∧ (∀ i, i < 8192 → byt (I 17 i)) ∧ JudI h I IM ∧ TapI I IM ∧ I 28 1 = IM 0 18 ∧ I 35 0 = IM 0 49 ∧ SumI I IM ∧ CovI I IM ∧ (∀ s', s' < 4 → s' ≠ s → Slot1 own I T F L IM s') ∧ T 19 s = some r ∧ NetSh F L r ∧ (∀ j, j ≤ 8 → own (r + j) = 4 + s) ∧ 56 ≤ r ∧ ∀ i, i < 8192 → byt (I (r + 7) i)
theorem keep_core {own h : Nat → Nat} {a : AN} {ro : Nat} {I : HI} {J : HJ} {T F : HR} {L : HL} {IM : HI} {JM : HJ} {s r : Nat} (hs : s < 4) (K : KPre own h a ro I T F L IM s r) : H_keep_b33 I T F L (nI s) (fun ra I2 T2 F2 L2 => M_keep IM (nI s) (fun rb IM2 => ra = rb ∧ Inv ro (I2, J, T2, F2, L2) IM2 JM)) := by
  obtain ⟨W, R, N, C, b5, b6, k1, k2, k3, k4, k5, k6, k7, k8, k9, k10, k11, k12, k13, k14, k15⟩ := K
  have n8 := W.2.1
  have o56 := k1.1
  unfold H_keep_b33
  rw [nx_nI (by omega)]
  refine ⟨vin (by omega) (by omega), r, k11, k12, Net_copy_k W N C k15 (by unfold apart; omega) (fun I' T' f N' t1 t2 => ?_)⟩
  refine M_keep_y hs W R (fun IM' fm RS => ⟨rfl, Inv_mk (own := own) (h := h) (a := a) ?_⟩)
  have hr : ∀ b, r ≤ b → b ≤ r + 8 → own b = 4 + s := fun b h1 h2 => by have := k13 (b - r) (by omega); rw [show r + (b - r) = b by omega] at this; exact this
  have g : ∀ b i, b < 56 → I' b i = I b i := fun b i hb => f b i (by unfold nP; omega)
  have g2 : ∀ b i, own b ≠ 4 + s → I' b i = I b i := fun b i hb => f b i (fun q => hb (hr b q.1 q.2))
  have fm' : ∀ b i, b < 38 → ¬ (b = 0 ∧ i = 0) → IM' b i = IM b i := fun b i h1 h2 => fm b i (by unfold SC; omega)
  have fx : Fr (nP r) I I' := f
  refine ⟨W, R.eq (fun b i hb => fm' _ _ (by omega) (by omega)), N.eq (fun j i hj => g _ _ (by omega)), C.fr (fun b i hb => g2 _ _ (by omega)) (fun w hw => t2 _ _ (by omega)) n8 Ext.rf, b5.eq (fun b i hb => fm' _ _ (by omega) (by omega)), b6.eq (fun b i hb => g _ _ (by omega)), k1, k2, fun i hi => by rw [g _ _ (by omega)]; exact k3 i hi, k4.eq (fun b i hb => g _ _ (by omega)) (fun b i hb => fm' _ _ (by omega) (by omega)), k5.eq (fun b i hb => g _ _ (by omega)) (fun b i hb => fm' _ _ (by omega) (by omega)), by rw [g _ _ (by omega), fm' _ _ (by omega) (by omega)]; exact k6, by rw [g _ _ (by omega), fm' _ _ (by omega) (by omega)]; exact k7, k8.eq (fun b i hb => g _ _ (by omega)) (fun b i hb => fm' _ _ (by omega) (by omega)), k9.eq (fun b i hb => g _ _ (by omega)) (fun b i hb => fm' _ _ (by omega) (by omega)), fun s' hs' => ?_⟩
  obtain ⟨s2, hs2, hn2⟩ : ∃ s2, s2 < 4 ∧ s2 ≠ s := by
    by_cases q : s = 0
    · exact ⟨1, by omega, by omega⟩
    · exact ⟨0, by omega, by omega⟩
  have hLn := (k10 s2 hs2 hn2).1.fr (fun b i hb => g2 b i (by omega)) (Ext.rf (F := F) (L := L))
  by_cases e : s' = s
  · subst e
    exact ⟨hLn, Or.inr ⟨r, a, (t2 _ _ (by omega)).trans k11, k12, W, N', CT_copy C n8 (fun j hj => by rw [k13 j hj]; omega) (fun b i hb => g2 _ _ (by omega)) t1 Ext.rf, RS, k13, k14⟩⟩
  · refine (k10 s' hs' e).fr3 (fun _ _ => rfl) (fun b i hb => g2 _ _ (by omega)) (fun b i hb => t2 _ _ (fun q => ?_)) Ext.rf (fun b i hb => fm _ _ ?_)
    · have := k13 6 (by omega); rw [q.1] at hb; omega
    · unfold SC at hb ⊢; omega
theorem st_keep {ro : Nat} {x1 : Int32} {I : HI} {J : HJ} {T F : HR} {L : HL} {IM : HI} {JM : HJ} (hI : Inv ro (I, J, T, F, L) IM JM) : St_keep x1 I J T F L ro IM JM (Inv ro) := by
  obtain ⟨own, h, a, B⟩ := Inv_el hI
  have no : Inv ro (I, J, T, F, L) (up2 IM 0 0 0) JM := Inv_mk (B.thr (Fr0 IM 0))
  obtain ⟨W, R, N, C, b5, b6, k1, k2, k3, k4, k5, k6, k7, k8, k9, k10⟩ := B
  have n8 := W.2.1
  have o56 := k1.1
  unfold St_keep H_keep
  rcases wcase x1 4 (by omega) with ⟨s, hs, rfl⟩ | hx
  · refine ie (nI_pos (by omega)) (it (nI_lt (b := 4) (by omega) (by omega)) ⟨vin (by omega) (by omega), ?_⟩)
    rw [nx_nI (by omega)]
    refine ⟨fun hn eq7 hfr => ?_, fun ef1 hs1 => ?_⟩
    · have h56 : 56 ≤ eq7 := by have := hfr _ k1.2.2.2.1; have := k1.2.2.2.2; omega
      have hro := hfr _ k1.2.2.2.1
      have ofr : ∀ b, own b ≠ 0 → b < eq7 := fun b hb => by
        obtain ⟨p, hp, he⟩ := k1.2.2.1 b hb
        have := hfr p hp
        omega
      have hsh : ∀ (F0 : HR) (L0 : HL), (eq7, 12, 0) ∈ L0 → NetSh (up2 (up2 (up2 (up2 (up2 (up2 (up2 (up2 F0 eq7 3 (some (eq7 + 1))) eq7 4 (some (eq7 + 2))) eq7 5 (some (eq7 + 3))) eq7 6 (some (eq7 + 4))) eq7 7 (some (eq7 + 5))) eq7 8 (some (eq7 + 6))) eq7 9 (some (eq7 + 7))) eq7 10 (some (eq7 + 8))) ((((((((L0 ++ [(eq7 + 1, 0, 8)]) ++ [(eq7 + 2, 0, 8)]) ++ [(eq7 + 3, 0, 8)]) ++ [(eq7 + 4, 0, 8)]) ++ [(eq7 + 5, 0, 8)]) ++ [(eq7 + 6, 5, 8)]) ++ [(eq7 + 7, 1, 8192)]) ++ [(eq7 + 8, 0, 6)]) eq7 := by
        intro F0 L0 h0
        unfold NetSh
        simp [up2_get, h0]
      unfold Net_init
      have hn7 := hsh (up1 F eq7 (fun _ => none)) (L ++ [(eq7, 12, 0)]) (by simp)
      have hext : Ext F L (up2 (up2 (up2 (up2 (up2 (up2 (up2 (up2 (up1 F eq7 (fun _ => none)) eq7 3 (some (eq7 + 1))) eq7 4 (some (eq7 + 2))) eq7 5 (some (eq7 + 3))) eq7 6 (some (eq7 + 4))) eq7 7 (some (eq7 + 5))) eq7 8 (some (eq7 + 6))) eq7 9 (some (eq7 + 7))) eq7 10 (some (eq7 + 8))) (((((((((L ++ [(eq7, 12, 0)]) ++ [(eq7 + 1, 0, 8)]) ++ [(eq7 + 2, 0, 8)]) ++ [(eq7 + 3, 0, 8)]) ++ [(eq7 + 4, 0, 8)]) ++ [(eq7 + 5, 0, 8)]) ++ [(eq7 + 6, 5, 8)]) ++ [(eq7 + 7, 1, 8192)]) ++ [(eq7 + 8, 0, 6)]) := by
        refine ⟨fun p hp => by simp [hp], fun p hp => ?_⟩
        have hne : p.1 ≠ eq7 := Nat.ne_of_lt (hfr p hp)
        rw [up2_ne _ _ _ hne, up2_ne _ _ _ hne, up2_ne _ _ _ hne, up2_ne _ _ _ hne, up2_ne _ _ _ hne, up2_ne _ _ _ hne, up2_ne _ _ _ hne, up2_ne _ _ _ hne, up1_ne _ _ hne]
      refine ⟨hn7, ?_⟩
      have hcell : ∀ j, j ≤ 8 → ∃ p ∈ (((((((((L ++ [(eq7, 12, 0)]) ++ [(eq7 + 1, 0, 8)]) ++ [(eq7 + 2, 0, 8)]) ++ [(eq7 + 3, 0, 8)]) ++ [(eq7 + 4, 0, 8)]) ++ [(eq7 + 5, 0, 8)]) ++ [(eq7 + 6, 5, 8)]) ++ [(eq7 + 7, 1, 8192)]) ++ [(eq7 + 8, 0, 6)]), p.1 = eq7 + j := by
        intro j hj
        rcases (show j = 0 ∨ j = 1 ∨ j = 2 ∨ j = 3 ∨ j = 4 ∨ j = 5 ∨ j = 6 ∨ j = 7 ∨ j = 8 by omega) with rfl | rfl | rfl | rfl | rfl | rfl | rfl | rfl | rfl
        · exact ⟨(eq7, 12, 0), by simp, rfl⟩
        · exact ⟨(eq7 + 1, 0, 8), by simp, rfl⟩
        · exact ⟨(eq7 + 2, 0, 8), by simp, rfl⟩
        · exact ⟨(eq7 + 3, 0, 8), by simp, rfl⟩
        · exact ⟨(eq7 + 4, 0, 8), by simp, rfl⟩
        · exact ⟨(eq7 + 5, 0, 8), by simp, rfl⟩
        · exact ⟨(eq7 + 6, 5, 8), by simp, rfl⟩
        · exact ⟨(eq7 + 7, 1, 8192), by simp, rfl⟩
        · exact ⟨(eq7 + 8, 0, 6), by simp, rfl⟩
      generalize (up2 (up2 (up2 (up2 (up2 (up2 (up2 (up2 (up1 F eq7 (fun _ => none)) eq7 3 (some (eq7 + 1))) eq7 4 (some (eq7 + 2))) eq7 5 (some (eq7 + 3))) eq7 6 (some (eq7 + 4))) eq7 7 (some (eq7 + 5))) eq7 8 (some (eq7 + 6))) eq7 9 (some (eq7 + 7))) eq7 10 (some (eq7 + 8))) = F2 at hn7 hext ⊢
      generalize (((((((((L ++ [(eq7, 12, 0)]) ++ [(eq7 + 1, 0, 8)]) ++ [(eq7 + 2, 0, 8)]) ++ [(eq7 + 3, 0, 8)]) ++ [(eq7 + 4, 0, 8)]) ++ [(eq7 + 5, 0, 8)]) ++ [(eq7 + 6, 5, 8)]) ++ [(eq7 + 7, 1, 8192)]) ++ [(eq7 + 8, 0, 6)]) = L2 at hn7 hext hcell ⊢
      generalize hI1 : (up1 (up1 (up1 (up1 (up1 (up1 (up1 (up1 I eq7 (fun _ => 0)) (eq7 + 1) (fun _ => 0)) (eq7 + 2) (fun _ => 0)) (eq7 + 3) (fun _ => 0)) (eq7 + 4) (fun _ => 0)) (eq7 + 5) (fun _ => 0)) (eq7 + 7) (fun _ => 0)) (eq7 + 8) (fun _ => 0)) = I1
      have f1 : Fr (nP eq7) I I1 := fun b i hb => by
        unfold nP at hb
        rw [← hI1, up1_ne _ _ (by omega), up1_ne _ _ (by omega), up1_ne _ _ (by omega), up1_ne _ _ (by omega), up1_ne _ _ (by omega), up1_ne _ _ (by omega), up1_ne _ _ (by omega), up1_ne _ _ (by omega)]
      have z7 : ∀ i, i < 8192 → byt (I1 (eq7 + 7) i) := fun i _ => by
        rw [← hI1, up1_ne _ _ (by omega), up1_at]; exact byt0
      refine Net_open_k (n := 2) (q := 2) (by omega) (by omega) (by omega) z7 (fun I2 T2 f2 N2 t1 t2 => ⟨geo_ext hext k2, hn7.1, vin (by omega) (by omega), ?_⟩)
      have f3 : Fr (nP eq7) I I2 := f1.tr f2
      have tt : ∀ b j, b ≠ eq7 + 6 → T2 b j = T b j := fun b j hb => by rw [t2 _ _ (by omega), up1_ne _ _ hb]
      have gI : ∀ b i, b < eq7 → I2 b i = I b i := fun b i hb => f3 b i (by unfold nP; omega)
      have hown : ∀ b, own b ≠ 0 → (fun b => if eq7 ≤ b ∧ b ≤ eq7 + 8 then 4 + s else own b) b = own b := fun b hb => by
        have := ofr b hb
        show (if eq7 ≤ b ∧ b ≤ eq7 + 8 then 4 + s else own b) = own b
        rw [if_neg (by omega)]
      have hown0 : ∀ b, b < eq7 → (fun b => if eq7 ≤ b ∧ b ≤ eq7 + 8 then 4 + s else own b) b = own b := fun b hb => by
        show (if eq7 ≤ b ∧ b ≤ eq7 + 8 then 4 + s else own b) = own b
        rw [if_neg (by omega)]
      have hownN : ∀ j, j ≤ 8 → (fun b => if eq7 ≤ b ∧ b ≤ eq7 + 8 then 4 + s else own b) (eq7 + j) = 4 + s := fun j hj => by
        show (if eq7 ≤ eq7 + j ∧ eq7 + j ≤ eq7 + 8 then 4 + s else own (eq7 + j)) = 4 + s
        rw [if_pos (by omega)]
      have hownD : ∀ b, (fun b => if eq7 ≤ b ∧ b ≤ eq7 + 8 then 4 + s else own b) b ≠ 0 → own b ≠ 0 ∨ ∃ j, j ≤ 8 ∧ b = eq7 + j := fun b hb => by
        by_cases q : eq7 ≤ b ∧ b ≤ eq7 + 8
        · exact Or.inr ⟨b - eq7, by omega, by omega⟩
        · exact Or.inl (fun q2 => hb (by show (if eq7 ≤ b ∧ b ≤ eq7 + 8 then 4 + s else own b) = 0; rw [if_neg q]; exact q2))
      generalize (fun b => if eq7 ≤ b ∧ b ≤ eq7 + 8 then 4 + s else own b) = own2 at hown hown0 hownN hownD
      have T19 : ∀ b j, ¬ (b = 19 ∧ j = s) → b ≠ eq7 + 6 → (up2 T2 19 s (some eq7)) b j = T b j := fun b j h1 h2 => by rw [up2_get, if_neg h1]; exact tt b j h2
      refine keep_core (own := own2) (h := h) (a := a) (r := eq7) hs ⟨W, R, N.eq (fun j i hj => gI _ _ (by omega)), (C.fr (fun b i hb => gI _ _ (ofr b (by omega))) (fun w hw => T19 _ _ (by omega) (by omega)) n8 hext).own hown (fun j hj => by rw [hown0 _ (by omega), o56 _ (by omega)]; decide), b5, b6.eq (fun b i hb => gI _ _ (by omega)), ⟨fun b hb => by rw [hown0 _ (by omega)]; exact o56 b hb, by rw [hown0 _ hro]; exact k1.2.1, fun b hb => ?_, hext.1 _ k1.2.2.2.1, k1.2.2.2.2⟩, geo_ext hext k2, fun i hi => by rw [gI _ _ (by omega)]; exact k3 i hi, k4.eq (fun b i hb => gI _ _ (by omega)) (fun _ _ _ => rfl), k5.eq (fun b i hb => gI _ _ (by omega)) (fun _ _ _ => rfl), by rw [gI _ _ (by omega)]; exact k6, by rw [gI _ _ (by omega)]; exact k7, k8.eq (fun b i hb => gI _ _ (by omega)) (fun _ _ _ => rfl), k9.eq (fun b i hb => gI _ _ (by omega)) (fun _ _ _ => rfl), fun s' hs' hne => ?_, up2_same _ _ _ _, hn7, hownN, h56, N2.2.2.2.2.2.2.2.2.1⟩
      · rcases hownD b hb with q | ⟨j, hj, rfl⟩
        · obtain ⟨p, hp, he⟩ := k1.2.2.1 b q
          exact ⟨p, hext.1 p hp, he⟩
        · exact hcell j hj
      · refine (k10 s' hs').fr3 hown (fun b i hb => gI _ _ (ofr b (by omega))) (fun b i hb => T19 _ _ (fun q => ?_) (fun q => ?_)) hext (fun _ _ _ => rfl)
        · have := o56 19 (by omega)
          rw [q.1] at hb; omega
        · rcases hb with hb | hb
          · omega
          · have := ofr b (by omega); omega
    · rcases (k10 s hs).2 with ⟨h1, h2⟩ | ⟨r, b, h1, h2, h3, h4, h5, h6, h7, h8⟩
      · rw [h1] at hs1; cases hs1
      · exact keep_core (own := own) (h := h) (a := a) (r := r) hs ⟨W, R, N, C, b5, b6, k1, k2, k3, k4, k5, k6, k7, k8, k9, fun s' hs' _ => k10 s' hs', h1, h2, h7, h8, h4.2.2.2.2.2.2.2.2.1⟩
  · have hm : M_keep IM x1 (fun rb IM2 => 0 = rb ∧ Inv ro (I, J, T, F, L) IM2 JM) := by
      unfold M_keep M_within
      rcases hx with h0 | ⟨h0, hx⟩
      · exact it h0 (it rfl ⟨rfl, no⟩)
      · obtain ⟨k, hk, rfl⟩ := nI_of h0
        rw [nI_leI (by omega) hk] at hx
        exact ie h0 (it (nI_lt (a := 3) (by omega) hk) (it rfl ⟨rfl, no⟩))
    rcases hx with h0 | ⟨h0, h9⟩
    · exact it h0 hm
    · refine ie h0 (ie (fun q => ?_) hm)
      obtain ⟨k, hk, rfl⟩ := nI_of h0
      rw [nI_leI (by omega) hk] at h9
      have q : nI k < nI 4 := q
      rw [nI_ltI hk (by omega)] at q
      omega
