/-! take: the reference's side -/
def tkx (I : HI) (k i : Nat) : HI := (up2 (up2 (up2 (up2 (up2 I 2 i (I 40 k)) 3 i ((up2 I 2 i (I 40 k)) 41 k)) 4 i ((up2 (up2 I 2 i (I 40 k)) 3 i ((up2 I 2 i (I 40 k)) 41 k)) 42 k)) 7 i ((up2 (up2 (up2 I 2 i (I 40 k)) 3 i ((up2 I 2 i (I 40 k)) 41 k)) 4 i ((up2 (up2 I 2 i (I 40 k)) 3 i ((up2 I 2 i (I 40 k)) 41 k)) 42 k)) 45 k)) 8 i ((up2 (up2 (up2 (up2 I 2 i (I 40 k)) 3 i ((up2 I 2 i (I 40 k)) 41 k)) 4 i ((up2 (up2 I 2 i (I 40 k)) 3 i ((up2 I 2 i (I 40 k)) 41 k)) 42 k)) 7 i ((up2 (up2 (up2 I 2 i (I 40 k)) 3 i ((up2 I 2 i (I 40 k)) 41 k)) 4 i ((up2 (up2 I 2 i (I 40 k)) 3 i ((up2 I 2 i (I 40 k)) 41 k)) 42 k)) 45 k)) 46 k))
theorem tkx_o {I : HI} {k i b j : Nat} (h : ¬ ((b = 2 ∨ b = 3 ∨ b = 4 ∨ b = 7 ∨ b = 8) ∧ j = i)) : tkx I k i b j = I b j := by
  unfold tkx
  rw [up2_get, if_neg (by omega), up2_get, if_neg (by omega), up2_get, if_neg (by omega), up2_get, if_neg (by omega), up2_get, if_neg (by omega)]
theorem tkx_v (I : HI) (k i : Nat) : tkx I k i 2 i = I 40 k ∧ tkx I k i 3 i = I 41 k ∧ tkx I k i 4 i = I 42 k ∧ tkx I k i 7 i = I 45 k ∧ tkx I k i 8 i = I 46 k := by
  unfold tkx
  refine ⟨?_, ?_, ?_, ?_, ?_⟩ <;> simp [up2_get]
def kpx (I : HI) (k i : Nat) : HI := (up2 (up2 (up2 (up2 (up2 I 40 k (I 2 i)) 41 k ((up2 I 40 k (I 2 i)) 3 i)) 42 k ((up2 (up2 I 40 k (I 2 i)) 41 k ((up2 I 40 k (I 2 i)) 3 i)) 4 i)) 45 k ((up2 (up2 (up2 I 40 k (I 2 i)) 41 k ((up2 I 40 k (I 2 i)) 3 i)) 42 k ((up2 (up2 I 40 k (I 2 i)) 41 k ((up2 I 40 k (I 2 i)) 3 i)) 4 i)) 7 i)) 46 k ((up2 (up2 (up2 (up2 I 40 k (I 2 i)) 41 k ((up2 I 40 k (I 2 i)) 3 i)) 42 k ((up2 (up2 I 40 k (I 2 i)) 41 k ((up2 I 40 k (I 2 i)) 3 i)) 4 i)) 45 k ((up2 (up2 (up2 I 40 k (I 2 i)) 41 k ((up2 I 40 k (I 2 i)) 3 i)) 42 k ((up2 (up2 I 40 k (I 2 i)) 41 k ((up2 I 40 k (I 2 i)) 3 i)) 4 i)) 7 i)) 8 i))
theorem kpx_o {I : HI} {k i b j : Nat} (h : ¬ ((b = 40 ∨ b = 41 ∨ b = 42 ∨ b = 45 ∨ b = 46) ∧ j = k)) : kpx I k i b j = I b j := by
  unfold kpx
  rw [up2_get, if_neg (by omega), up2_get, if_neg (by omega), up2_get, if_neg (by omega), up2_get, if_neg (by omega), up2_get, if_neg (by omega)]
theorem kpx_v (I : HI) (k i : Nat) : kpx I k i 40 k = I 2 i ∧ kpx I k i 41 k = I 3 i ∧ kpx I k i 42 k = I 4 i ∧ kpx I k i 45 k = I 7 i ∧ kpx I k i 46 k = I 8 i := by
  unfold kpx
  refine ⟨?_, ?_, ?_, ?_, ?_⟩ <;> simp [up2_get]
def tk0 : Nat → Nat → Prop := fun b _ => 2 ≤ b ∧ b ≤ 8
theorem M_take_3 {s : Nat} (hs : s < 4) {I0 : HI} {Q : Int32 → HI → Prop} (hQ : ∀ I, Fr (fun b _ => b = 6) I0 I → (∀ k, k < 8000 → I 6 k = I0 44 (8000 * s + k)) → Q 1 I) : ∀ d i I, i + d = 8000 → Fr (fun b _ => b = 6) I0 I → (∀ k, k < i → I 6 k = I0 44 (8000 * s + k)) → M_take_l175 (nI s) Q (d + 1) I (nI i) := by
  intro d
  induction d with
  | zero =>
    intro i I hi f h
    rw [M_take_l175, show (8000 : Int32) = nI 8000 from rfl]
    exact it (nI_le (by omega) (by omega)) (hQ I f (fun k hk => h k (by omega)))
  | succ d ih =>
    intro i I hi f h
    rw [M_take_l175, show (8000 : Int32) = nI 8000 from rfl, nM, nI_add, nx_nI (show i < 2 ^ 31 by omega), nx_nI (show 8000 * s + i < 2 ^ 31 by omega), nI_1]
    refine ie (nI_ge (by omega) (by omega)) ⟨vin (by omega) (by omega), vin (by omega) (by omega), ih (i + 1) _ (by omega) (f.up rfl) (fun k hk => ?_)⟩
    rw [up2_get]
    by_cases e : k = i
    · rw [if_pos ⟨rfl, e⟩, f _ _ (by omega), e]
    · rw [if_neg (by omega)]; exact h k (by omega)
theorem M_take_2 {s : Nat} (hs : s < 4) {I0 : HI} {Q : Int32 → HI → Prop} (hQ : ∀ I, Fr (fun b _ => b = 5) I0 I → (∀ k, k < 8192 → I 5 k = I0 43 (8192 * s + k)) → ∃ nn, M_take_l175 (nI s) Q nn I 0) : ∀ d i I, i + d = 8192 → Fr (fun b _ => b = 5) I0 I → (∀ k, k < i → I 5 k = I0 43 (8192 * s + k)) → M_take_l142 (nI s) Q (d + 1) I (nI i) := by
  intro d
  induction d with
  | zero =>
    intro i I hi f h
    rw [M_take_l142, show (8192 : Int32) = nI 8192 from rfl]
    exact it (nI_le (by omega) (by omega)) (hQ I f (fun k hk => h k (by omega)))
  | succ d ih =>
    intro i I hi f h
    rw [M_take_l142, show (8192 : Int32) = nI 8192 from rfl, nM, nI_add, nx_nI (show i < 2 ^ 31 by omega), nx_nI (show 8192 * s + i < 2 ^ 31 by omega), nI_1]
    refine ie (nI_ge (by omega) (by omega)) ⟨vin (by omega) (by omega), vin (by omega) (by omega), ih (i + 1) _ (by omega) (f.up rfl) (fun k hk => ?_)⟩
    rw [up2_get]
    by_cases e : k = i
    · rw [if_pos ⟨rfl, e⟩, f _ _ (by omega), e]
    · rw [if_neg (by omega)]; exact h k (by omega)
def tkd (I0 I : HI) (s i : Nat) : Prop := ∀ w, w < i → I 2 w = I0 40 (8 * s + w) ∧ I 3 w = I0 41 (8 * s + w) ∧ I 4 w = I0 42 (8 * s + w) ∧ I 7 w = I0 45 (8 * s + w) ∧ I 8 w = I0 46 (8 * s + w)
theorem M_take_1 {s : Nat} (hs : s < 4) {I0 : HI} {Q : Int32 → HI → Prop} (hQ : ∀ I, Fr (fun b _ => b = 2 ∨ b = 3 ∨ b = 4 ∨ b = 7 ∨ b = 8) I0 I → tkd I0 I s 8 → ∃ nn, M_take_l142 (nI s) Q nn I 0) : ∀ d i I, i + d = 8 → Fr (fun b _ => b = 2 ∨ b = 3 ∨ b = 4 ∨ b = 7 ∨ b = 8) I0 I → tkd I0 I s i → M_take_l43 (nI s) Q (d + 1) I (nI i) := by
  intro d
  induction d with
  | zero =>
    intro i I hi f h
    have : i = 8 := by omega
    subst this
    rw [M_take_l43, nlit8]
    exact it (nI_le (by omega) (by omega)) (hQ I f h)
  | succ d ih =>
    intro i I hi f h
    rw [M_take_l43, nlit8, nM, nI_add, nx_nI (show i < 2 ^ 31 by omega), nx_nI (show 8 * s + i < 2 ^ 31 by omega), nI_1]
    have v1 : vp_in (nI (8 * s + i)) 32 := vin (by omega) (by omega)
    have v2 : vp_in (nI i) 8 := vin (by omega) (by omega)
    refine ie (nI_ge (by omega) (by omega)) ⟨v1, v2, v1, v2, v1, v2, v1, v2, v1, v2, ?_⟩
    show M_take_l43 (nI s) Q (d + 1) (tkx I (8 * s + i) i) (nI (i + 1))
    obtain ⟨t1, t2, t3, t4, t5⟩ := tkx_v I (8 * s + i) i
    refine ih (i + 1) _ (by omega) (fun b j hn => ?_) (fun w hw => ?_)
    · rw [tkx_o (by omega)]; exact f b j hn
    · by_cases e : w = i
      · subst e
        rw [t1, t2, t3, t4, t5, f _ _ (by omega), f _ _ (by omega), f _ _ (by omega), f _ _ (by omega), f _ _ (by omega)]
        exact ⟨rfl, rfl, rfl, rfl, rfl⟩
      · rw [tkx_o (by omega), tkx_o (by omega), tkx_o (by omega), tkx_o (by omega), tkx_o (by omega)]; exact h w (by omega)
theorem M_take_y {IM : HI} {s : Nat} {b : AN} (hs : s < 4) (W : WF b) (R : RepS IM s b) {Q : Int32 → HI → Prop} (hQ : ∀ IM', Fr (fun x i => x = 0 ∧ (i ≤ 3 ∨ i = 40) ∨ 2 ≤ x ∧ x ≤ 8) IM IM' → RepM IM' b → IM' 0 40 = 0 → Q 1 IM') : M_take IM (nI s) Q := by
  obtain ⟨w1, w2, w3, w4, w5, w6⟩ := id W
  obtain ⟨e1, e2, e3⟩ := R
  unfold M_take M_within
  have k0 := Fr0 IM 0
  rw [nx_nI (by omega), k0 38 s (by omega), k0 39 s (by omega), e1, e2]
  refine ie (nI_pos (by omega)) (ie (nI_nlt (a := 3) (by omega) (by omega)) (ie (by decide) ⟨vin (by omega) (by omega), ie (nI_ne0 (by omega) (by omega)) ⟨vin (by omega) (by omega), vin (by omega) (by omega), M_anew_k ⟨w1, w2, w3, w4⟩ (fun I3 f3 A => ⟨9, M_take_1 hs (fun I4 f4 h4 => ⟨8193, M_take_2 hs (fun I5 f5 h5 => ⟨8001, M_take_3 hs (fun I6 f6 h6 => ?_) 8000 0 I5 (by omega) Fr.rf (fun k hk => by omega)⟩) 8192 0 I4 (by omega) Fr.rf (fun k hk => by omega)⟩) 8 0 I3 (by omega) Fr.rf (fun w hw => by omega)⟩)⟩⟩))
  have g : ∀ x i, 38 ≤ x → I3 x i = IM x i := fun x i hx => (f3 _ _ (by unfold aP; omega)).trans (k0 _ _ (by omega))
  have fa : Fr (fun x _ => 2 ≤ x ∧ x ≤ 8) I3 I6 := ((f4.mono (fun x i hx => by omega)).tr (f5.mono (fun x i hx => by omega))).tr (f6.mono (fun x i hx => by omega))
  have c5 : ∀ x i, x = 2 ∨ x = 3 ∨ x = 4 ∨ x = 7 ∨ x = 8 → I6 x i = I4 x i := fun x i hx => (f6 _ _ (by omega)).trans (f5 _ _ (by omega))
  refine hQ I6 (fun x i hn => ?_) ⟨⟨(fa _ _ (by omega)).trans A.1.1, (fa _ _ (by omega)).trans A.1.2.1, fun w hw => ?_, fun w hw => ?_, w1, w2, w3, w4, fun w hw => (w6 w hw).1, fun w hw => (w6 w hw).2.2.1⟩, (fa _ _ (by omega)).trans A.2.1, fun w hw => ⟨?_, fun h0 v hv => ?_, fun h1 => ?_⟩⟩ ((fa _ _ (by omega)).trans A.2.2.1)
  · rw [fa _ _ (by omega), f3 _ _ (by unfold aP; omega)]; exact k0 _ _ (by omega)
  · rw [c5 _ _ (by omega), (h4 w (by omega)).1, g _ _ (by omega)]; exact (e3 w hw).1
  · rw [c5 _ _ (by omega), (h4 w (by omega)).2.1, g _ _ (by omega)]; exact (e3 w hw).2.1
  · rw [c5 _ _ (by omega), (h4 w (by omega)).2.2.1, g _ _ (by omega)]; exact (e3 w hw).2.2.1
  · have := W.k1 w hw h0
    have hv' : v < avw b w := hv
    rw [f6 _ _ (by omega), h5 _ (by omega), f4 _ _ (by omega), g _ _ (by omega)]
    exact (e3 w hw).2.2.2.1 h0 v hv
  · obtain ⟨t, t1, t2, t3, t4⟩ := (e3 w hw).2.2.2.2 h1
    have hc : ∀ k, k < 8000 → I6 6 k = IM 44 (8000 * s + k) := fun k hk => by rw [h6 k hk, f5 _ _ (by omega), f4 _ _ (by omega), g _ _ (by omega)]
    refine ⟨t, ?_, mco_lt (C := fun k => IM 44 (8000 * s + k)) (B := 8000) hc _ _ (by omega) t2, t3, ?_⟩
    · rw [c5 _ _ (by omega), (h4 w (by omega)).2.2.2.2, g _ _ (by omega)]; exact t1
    · cases hc1 : (acd b w).1 with
      | none =>
        rw [hc1] at t4
        show I6 7 w = -1
        rw [c5 _ _ (by omega), (h4 w (by omega)).2.2.2.1, g _ _ (by omega)]; exact t4
      | some p =>
        rw [hc1] at t4
        refine ⟨?_, mco_lt (C := fun k => IM 44 (8000 * s + k)) (B := 8000) hc _ _ (by omega) t4.2.1, t4.2.2⟩
        rw [c5 _ _ (by omega), (h4 w (by omega)).2.2.2.1, g _ _ (by omega)]; exact t4.1
theorem M_take_n {IM : HI} {x : Int32} (hx : (∃ s, s < 4 ∧ x = nI s ∧ IM 38 s = 0) ∨ (x < 0 ∨ (¬ x < 0 ∧ nI 4 ≤ x))) {Q : Int32 → HI → Prop} (hQ : Q 0 (up2 IM 0 0 0)) : M_take IM x Q := by
  unfold M_take M_within
  rcases hx with ⟨s, hs, rfl, h0⟩ | hx | ⟨h0, hx⟩
  · rw [nx_nI (by omega), Fr0 IM 0 38 s (by omega), h0]
    exact ie (nI_pos (by omega)) (ie (nI_nlt (a := 3) (by omega) (by omega)) (ie (by decide) ⟨vin (by omega) (by omega), it rfl hQ⟩))
  · exact it hx (it rfl hQ)
  · obtain ⟨k, hk, rfl⟩ := nI_of h0
    rw [nI_leI (by omega) hk] at hx
    exact ie h0 (it (nI_lt (a := 3) (by omega) hk) (it rfl hQ))
theorem st_take {ro : Nat} {x1 : Int32} {I : HI} {J : HJ} {T F : HR} {L : HL} {IM : HI} {JM : HJ} (hI : Inv ro (I, J, T, F, L) IM JM) : St_take x1 I J T F L ro IM JM (Inv ro) := by
  obtain ⟨own, h, a, B⟩ := Inv_el hI
  have no : Inv ro (I, J, T, F, L) (up2 IM 0 0 0) JM := Inv_mk (B.thr (Fr0 IM 0))
  obtain ⟨W, R, N, C, b5, b6, b7⟩ := B
  unfold St_take H_take
  rcases wcase x1 4 (by omega) with ⟨s, hs, rfl⟩ | hx
  · refine ie (nI_pos (by omega)) (ie (nI_ge (b := 4) (by omega) (by omega)) ⟨vin (by omega) (by omega), ?_⟩)
    rw [nx_nI (by omega)]
    refine ⟨fun hn => ?_, fun ef1 hs1 => ⟨vin (by omega) (by omega), ef1, hs1, ?_⟩⟩
    · rcases (b7.2.2.2.2.2.2.2.2.2 s hs).2 with ⟨h1, h2⟩ | ⟨r, b, h1, _⟩
      · exact M_take_n (Or.inl ⟨s, hs, rfl, h2⟩) ⟨rfl, no⟩
      · rw [h1] at hn; cases hn
    · rcases (b7.2.2.2.2.2.2.2.2.2 s hs).2 with ⟨h1, h2⟩ | ⟨r, b, h1, h2, h3, h4, h5, h6, h7, h8⟩
      · rw [h1] at hs1; cases hs1
      · have : ef1 = r := by rw [h1] at hs1; cases hs1; rfl
        subst this
        refine ⟨h2, Net_copy_k h3 h4 h5 N.2.2.2.2.2.2.2.2.1 (by unfold apart; omega) (fun I' T' f N' t1 t2 => ?_)⟩
        unfold Led_spoil
        refine M_take_y hs h3 h6 (fun IM' fm RM' e40 => ⟨rfl, Inv_mk (own := own) (h := h) (a := b) ?_⟩)
        have nz := nz_own b7.1
        have o56 := b7.1.1
        have fI : ∀ b i, ¬ nP 1 b i → ¬ (b = 26 ∧ i = 1) → (up2 I' 26 1 0) b i = I b i := fun b i h1 h2 => by rw [up2_get, if_neg h2]; exact f b i h1
        refine ⟨h3, RM', N'.eq (fun j i hj => by rw [up2_get, if_neg (by omega)]), CT_copy h5 h3.2.1 C.1 (fun b i hb => fI b i (by have := nz b; unfold nP; omega) (by have := nz b; omega)) t1 Ext.rf, Or.inl e40, Or.inl (up2_same _ _ _ _), b7.fr (fun b i hb => ?_) (fun b i hb => ?_) Ext.rf (fun b i hb => ?_)⟩
        · have := nz b
          unfold RC at hb
          exact fI b i (by unfold nP; omega) (by omega)
        · have := nz b
          exact t2 b i (by omega)
        · unfold RM at hb
          exact fm b i (by omega)
  · have hm := M_take_n (IM := IM) (x := x1) (Or.inr hx) (Q := fun rb IM2 => 0 = rb ∧ Inv ro (I, J, T, F, L) IM2 JM) ⟨rfl, no⟩
    rcases hx with h0 | ⟨h0, h9⟩
    · exact it h0 hm
    · exact ie h0 (it h9 hm)
