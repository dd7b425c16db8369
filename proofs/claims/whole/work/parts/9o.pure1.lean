/-! the class's start -/
theorem FC_0 : ∀ q ∈ FC0, q.1 = 0 → q.2.1 ≤ 12 := by decide
theorem geo0 {F : HR} {L : HL} {j : Nat} {x : Option Nat} (h : Geo F L) (hj : 13 ≤ j) : Geo (up2 F 0 j x) L := ⟨h.1, fun q hq => by
  rw [up2_get, if_neg (fun e => by have := FC_0 q hq e.1; omega)]
  exact h.2 q hq⟩
theorem Frep.up0 {I : HI} {F : HR} {L : HL} {own : Nat → Nat} {f j : Nat} {c : Option AC × AC} {x : Option Nat} (h : Frep I F L own f c) (hf : f ≠ 0) : Frep I (up2 F 0 j x) L own f c := by
  obtain ⟨n, k, l, q, v, h1, h2⟩ := h
  refine ⟨n, k, l, q, v, ?_, h2⟩
  unfold FrmSh at h1 ⊢
  rw [up2_ne _ _ _ hf]
  exact h1
theorem own5_0 {own : Nat → Nat} {f k l q v b : Nat} (h : b ≠ f ∧ b ≠ k ∧ b ≠ l ∧ b ≠ q ∧ b ≠ v) : own5 own f k l q v b = own b := by
  unfold own5
  rw [if_neg (by omega), if_neg (by omega)]
theorem own5_p {own : Nat → Nat} {f k l q v : Nat} {P : Nat → Prop} (h : ∀ b, own b ≠ 0 → P b) (h1 : P f) (h2 : P k) (h3 : P l) (h4 : P q) (h5 : P v) : ∀ b, own5 own f k l q v b ≠ 0 → P b := by
  intro b hb
  unfold own5 at hb
  by_cases c : b = f ∨ b = k ∨ b = l ∨ b = q
  · rcases c with rfl | rfl | rfl | rfl
    · exact h1
    · exact h2
    · exact h3
    · exact h4
  · rw [if_neg c] at hb
    by_cases c2 : b = v
    · rw [c2]; exact h5
    · rw [if_neg c2] at hb; exact h b hb
theorem own5_v {own : Nat → Nat} {f k l q v : Nat} (hd : v ≠ f ∧ v ≠ k ∧ v ≠ l ∧ v ≠ q) : own5 own f k l q v f = 2 ∧ own5 own f k l q v k = 2 ∧ own5 own f k l q v l = 2 ∧ own5 own f k l q v q = 2 ∧ own5 own f k l q v v = 3 := by
  unfold own5
  refine ⟨?_, ?_, ?_, ?_, ?_⟩
  · rw [if_pos (by omega)]
  · rw [if_pos (by omega)]
  · rw [if_pos (by omega)]
  · rw [if_pos (by omega)]
  · rw [if_neg (by omega), if_pos rfl]
theorem start_C {I : HI} {T F : HR} {L : HL} (hG : Geo F L) (m55 : (55, 0, 8) ∈ L) (N : CN I 1 (aOpen 2 2)) (t7 : ∀ w, T 7 w = none) (t19 : ∀ s, s < 4 → T 19 s = none) (h26 : I 26 1 = 0) (h17 : ∀ i, i < 8192 → byt (I 17 i)) (h24 : ∀ c, c < 4 → I 24 c = nI 8) (h231 : I 23 1 = nI 0) (h232 : I 23 2 = nI 1) (h8 : I 0 8 = nI 0) (h28 : I 28 1 = -1) (h35 : I 35 0 = -1) (h39 : I 39 1 = nI 0) (h442 : I 44 2 = nI 0) (h440 : I 44 0 = nI 0) :
    Frm_ofFirstInLine I T F L (fun f I T F L => Geo F L ∧ (0, 17, 0) ∈ L ∧ (f, 8, 0) ∈ L ∧ Geo (up2 F 0 13 (some f)) L ∧ Frm_ofNextInLine I T (up2 F 0 13 (some f)) L (fun g I T F L => Geo F L ∧ (0, 17, 0) ∈ L ∧ (g, 8, 0) ∈ L ∧ Geo (up2 F 0 14 (some g)) L ∧ (55, 0, 8) ∈ L ∧
      M_init (up1 i0 0 (fun _ => 0)) (up1 r0 0 (fun _ => none)) ([] ++ [(0, 18, 0)]) (fun IM => ∀ ro, (∀ p ∈ L, p.1 < ro) → Inv ro (I, up1 j0 ro (fun _ => 0), T, up2 F 0 14 (some g), L ++ [(ro, 4, 1)]) IM (up1 j0 0 (fun _ => 0))))) := by
  refine Frm_first_k hG (fun f k l q v I1 F1 L1 M1 => ?_)
  obtain ⟨f1, f2, f3, f4, f5, f6, e1, g1, s1, -⟩ := id M1
  have c0 := gl_0 hG
  have G1 : Geo F1 L1 := geo_ext e1 hG
  refine ⟨G1, e1.1 _ c0, s1.1, geo0 G1 (by omega), Frm_next_k (w := 1) (geo0 G1 (by omega)) (by decide) (fun g k2 l2 q2 v2 I2 F2 L2 M2 => ?_)⟩
  obtain ⟨p1, p2, p3, p4, p5, p6, e2, g2, s2, -⟩ := id M2
  have G2 : Geo F2 L2 := geo_ext e2 (geo0 G1 (by omega))
  refine ⟨G2, e2.1 _ (e1.1 _ c0), s2.1, geo0 G2 (by omega), e2.1 _ (e1.1 _ m55), start_M (fun IM R h40 h1 h4 h5 h16 h18 h49 h50 h54 h35' h38 ro hro => ?_)⟩
  have m1 : 55 < f ∧ 55 < k ∧ 55 < l ∧ 55 < q ∧ 55 < v := ⟨f1 _ m55, f2 _ m55, f3 _ m55, f4 _ m55, f5 _ m55⟩
  have mm : ∀ x, (∃ p ∈ L1, p.1 = x) → x < g ∧ x < k2 ∧ x < l2 ∧ x < q2 ∧ x < v2 ∧ x < ro := by
    rintro x ⟨p, hp, rfl⟩
    exact ⟨p1 p hp, p2 p hp, p3 p hp, p4 p hp, p5 p hp, hro p (e2.1 p hp)⟩
  have x1 : ∃ p ∈ L1, p.1 = f := ⟨_, s1.1, rfl⟩
  have x2 : ∃ p ∈ L1, p.1 = k := ⟨_, s1.2.2.1, rfl⟩
  have x3 : ∃ p ∈ L1, p.1 = l := ⟨_, s1.2.2.2.2.1, rfl⟩
  have x4 : ∃ p ∈ L1, p.1 = q := ⟨_, s1.2.2.2.2.2.2.1, rfl⟩
  have x5 : ∃ p ∈ L1, p.1 = v := ⟨_, s1.2.2.2.2.2.2.2.2, rfl⟩
  have y1 : ∃ p ∈ L2, p.1 = g := ⟨_, s2.1, rfl⟩
  have y2 : ∃ p ∈ L2, p.1 = k2 := ⟨_, s2.2.2.1, rfl⟩
  have y3 : ∃ p ∈ L2, p.1 = l2 := ⟨_, s2.2.2.2.2.1, rfl⟩
  have y4 : ∃ p ∈ L2, p.1 = q2 := ⟨_, s2.2.2.2.2.2.2.1, rfl⟩
  have y5 : ∃ p ∈ L2, p.1 = v2 := ⟨_, s2.2.2.2.2.2.2.2.2, rfl⟩
  have lr : ∀ x, (∃ p ∈ L2, p.1 = x) → x < ro := by
    rintro x ⟨p, hp, rfl⟩
    exact hro p hp
  have up : ∀ x, (∃ p ∈ L1, p.1 = x) → ∃ p ∈ L2 ++ [(ro, 4, 1)], p.1 = x := by
    rintro x ⟨p, hp, rfl⟩
    exact ⟨p, List.mem_append_left _ (e2.1 p hp), rfl⟩
  have up' : ∀ x, (∃ p ∈ L2, p.1 = x) → ∃ p ∈ L2 ++ [(ro, 4, 1)], p.1 = x := by
    rintro x ⟨p, hp, rfl⟩
    exact ⟨p, List.mem_append_left _ hp, rfl⟩
  have z1 := mm f x1
  have z2 := mm k x2
  have z3 := mm l x3
  have z4 := mm q x4
  have z5 := mm v x5
  have w1 := lr g y1
  have w2 := lr k2 y2
  have w3 := lr l2 y3
  have w4 := lr q2 y4
  have w5 := lr v2 y5
  have i2 : ∀ b i, b < 56 → I2 b i = I b i := fun b i hb => by
    obtain ⟨p, hp, he⟩ := geo_all hG b hb
    rw [g2 b i ⟨p, e1.1 p hp, he⟩, g1 b i ⟨p, hp, he⟩]
  have ow : ∀ b, own5 z0 f k l q v b ≠ 0 → own5 (own5 z0 f k l q v) g k2 l2 q2 v2 b = own5 z0 f k l q v b := by
    refine own5_p (fun b hb => absurd rfl hb) ?_ ?_ ?_ ?_ ?_ <;> exact own5_0 (by omega)
  have o56 : ∀ b, b < 56 → own5 (own5 z0 f k l q v) g k2 l2 q2 v2 b = 0 := fun b hb => by
    rw [own5_0 (by omega), own5_0 (by omega)]; rfl
  obtain ⟨u1, u2, u3, u4, u5⟩ := own5_v (own := z0) f6
  obtain ⟨r1, r2, r3, r4, r5⟩ := own5_v (own := own5 z0 f k l q v) p6
  have hLn : LnF (own5 (own5 z0 f k l q v) g k2 l2 q2 v2) I2 (up2 F2 0 14 (some g)) (L2 ++ [(ro, 4, 1)]) := by
    have a1 : Frep I1 F1 L1 (own5 z0 f k l q v) f (lc 0) := M1.rep u1 u2 u3 u4 u5
    have a2 : Frep I1 (up2 F1 0 13 (some f)) L1 (own5 z0 f k l q v) f (lc 0) := a1.up0 (by omega)
    have a3 : Frep I2 F2 L2 (own5 z0 f k l q v) f (lc 0) := a2.fr (fun b i hb => g2 b i (own5_p (own := z0) (f := f) (k := k) (l := l) (q := q) (v := v) (P := fun b => ∃ p ∈ L1, p.1 = b) (fun b hb => absurd rfl hb) x1 x2 x3 x4 x5 b (fun h0 => absurd (hb.symm.trans h0) (by decide)))) e2
    have a4 : Frep I2 (up2 F2 0 14 (some g)) L2 (own5 z0 f k l q v) f (lc 0) := a3.up0 (by omega)
    have b1 : Frep I2 F2 L2 (own5 (own5 z0 f k l q v) g k2 l2 q2 v2) g (lc 1) := M2.rep r1 r2 r3 r4 r5
    have b2 : Frep I2 (up2 F2 0 14 (some g)) L2 (own5 (own5 z0 f k l q v) g k2 l2 q2 v2) g (lc 1) := b1.up0 (by omega)
    refine ⟨List.mem_append_left _ (e2.1 _ (e1.1 _ c0)), f, g, ?_, up2_same _ _ _ _, (a4.own ow).fr (fun _ _ _ => rfl) (Ext.app [(ro, 4, 1)]), b2.fr (fun _ _ _ => rfl) (Ext.app [(ro, 4, 1)])⟩
    have q0 := e2.2 _ (e1.1 _ c0)
    dsimp only at q0
    rw [up2_idx _ _ _ (by decide), q0, up2_same]
  refine Inv_mk (own := own5 (own5 z0 f k l q v) g k2 l2 q2 v2) (h := fun _ => 8) (a := aOpen 2 2) ⟨aOpen_WF (by omega) (by omega) (by omega) (by omega) (by omega), R, N.eq (fun j i hj => i2 _ _ (by omega)), ⟨fun j hj => by rw [o56 _ (by omega)]; decide, fun w f hw hf => ?_, fun w hw => Or.inl ⟨?_, t7 w⟩⟩, Or.inl h40, Or.inl ((i2 _ _ (by omega)).trans h26), ⟨o56, ?_, ?_, List.mem_append_right _ (List.mem_singleton.mpr rfl), by omega⟩, geo_ext (Ext.app [(ro, 4, 1)]) (geo0 G2 (by omega)), fun i hi => by rw [i2 _ _ (by omega)]; exact h17 i hi, ⟨fun c hc => ⟨(i2 _ _ (by omega)).trans (h24 c hc), h1 c hc, show 8 ≤ 9 by decide⟩, 0, 1, (i2 _ _ (by omega)).trans h231, h4, by omega, (i2 _ _ (by omega)).trans h232, h5, by omega⟩, ⟨0, (i2 _ _ (by omega)).trans h8, h16, by omega, fun k hk => by omega⟩, ((i2 _ _ (by omega)).trans h28).trans h18.symm, ((i2 _ _ (by omega)).trans h35).trans h49.symm, ⟨0, (i2 _ _ (by omega)).trans h39, h50, by omega, fun w hw => by omega⟩, ⟨⟨0, (i2 _ _ (by omega)).trans h442, by omega, (i2 _ _ (by omega)).trans h440, h54, fun i hi => by unfold cov at hi; simp at hi⟩, fun n _ _ => Or.inl (h35' n)⟩, fun s hs => ⟨hLn, Or.inl ⟨t19 s hs, h38 s⟩⟩⟩
  · have := t7 w
    rw [show (1 + 6 : Nat) = 7 from rfl, this] at hf
    cases hf
  · show (if vw 2 2 (oth 2) z0 w ≤ 1024 then 0 else 2) ≠ 1
    split <;> omega
  · rw [own5_0 (by omega), own5_0 (by omega)]; rfl
  · exact own5_p (P := fun b => ∃ p ∈ L2 ++ [(ro, 4, 1)], p.1 = b) (own5_p (fun b hb => absurd rfl hb) (up _ x1) (up _ x2) (up _ x3) (up _ x4) (up _ x5)) (up' _ y1) (up' _ y2) (up' _ y3) (up' _ y4) (up' _ y5)
set_option maxRecDepth 4000 in
theorem Pure0_Inv : Pure0 Inv := by
  unfold Pure0 H_init Net_init
  refine ⟨by unfold NetSh; simp [up2_get], Net_open_k (n := 2) (q := 2) (by omega) (by omega) (by omega) (fun j hj => ?_) (fun I3 T3 f3 N3 t31 t32 => ⟨by decide, by decide, by decide, by unfold NetSh; simp [up2_get], Net_open_k (n := 2) (q := 2) (by omega) (by omega) (by omega) (fun j hj => ?_) (fun I4 T4 f4 N4 t41 t42 => ?_)⟩)⟩
  · show byt ((up1 _ (1 + 8) _) (1 + 7) j)
    rw [up1_ne _ _ (by omega), up1_at]; exact byt0
  · show byt ((up1 _ (10 + 8) _) (10 + 7) j)
    rw [up1_ne _ _ (by omega), up1_at]; exact byt0
  unfold Sc_init Jud_init Led_init Rd_init Se_init Su_init Cov_init Men_init Sc_init
  refine ⟨by decide, by decide, by decide, by decide, by decide, by decide, by decide, by decide, by decide, by decide, by decide, by decide, by decide, by decide, by decide, by decide, by decide, by decide, by decide, by decide, by decide, by decide, by decide, by decide, by decide, by decide, by decide, by decide, by decide, by decide, by decide, by decide, by decide, ⟨by decide, by decide⟩, ?_⟩
  have i4 : ∀ b i, 1 ≤ b → b ≤ 9 → I4 b i = I3 b i := fun b i h1 h2 => by
    rw [f4 _ _ (by unfold nP; omega)]
    simp (disch := omega) only [up1_ne]
  have t7 : ∀ w, T4 7 w = none := fun w => by
    rw [t42 _ _ (by omega), up1_ne _ _ (by omega)]
    by_cases hw : w < 2
    · exact t31 w hw
    · rw [t32 _ _ (by omega), up1_at]
  refine start_C ⟨by decide, by decide⟩ (by decide) (N3.eq (fun j i hj => ?_)) (fun w => ?_) (fun s hs => ?_) ?_ (fun i hi => ?_) (fun c hc => ?_) ?_ ?_ ?_ ?_ ?_ ?_ ?_ ?_
  · simp (disch := omega) only [up1_ne, up2_ne]
    exact i4 _ _ (by omega) (by omega)
  · simp (disch := omega) only [up1_ne]
    exact t7 w
  · simp [up1, up2_get]
  · simp [up1, up2_get]
  · simp (disch := omega) only [up1_ne, up2_ne]
    exact N4.2.2.2.2.2.2.2.2.1 i hi
  · rcases (show c = 0 ∨ c = 1 ∨ c = 2 ∨ c = 3 by omega) with rfl | rfl | rfl | rfl <;> simp [up1, up2_get] <;> rfl
  · simp [up1, up2_get]; rfl
  · simp [up1, up2_get]; rfl
  · simp [up1, up2_get]; rfl
  · simp [up1, up2_get]
  · simp [up1, up2_get]
  · simp [up1, up2_get]; rfl
  · simp [up1, up2_get]; rfl
  · simp [up1, up2_get]; rfl
