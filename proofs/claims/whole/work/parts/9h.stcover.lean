/-! cover -/
theorem rfB_n {n k : Nat} (h1 : 1 ≤ n) (h5 : n ≤ 5) (hk : 1 ≤ k) (hl : k < (cov n).length) : rfN n k 18000 [(0, 0)] = some none := by
  have : rfB n = true := by
    by_cases e : n = 5
    · rw [e]; exact rfB_5
    · exact rfB_4 n (by omega) h1
  unfold rfB at this
  rw [Bool.and_eq_true, List.all_eq_true] at this
  have := this.1 (k - 1) (List.mem_range.mpr (by omega))
  rw [show k - 1 + 1 = k by omega] at this
  exact eq_of_beq this
theorem rfB_y {n : Nat} (h1 : 1 ≤ n) (h5 : n ≤ 5) : rfN n (cov n).length 18000 [(0, 0)] = some (some (cov n)) := by
  have : rfB n = true := by
    by_cases e : n = 5
    · rw [e]; exact rfB_5
    · exact rfB_4 n (by omega) h1
  unfold rfB at this
  rw [Bool.and_eq_true] at this
  exact eq_of_beq this.2
theorem covers_k {I0 : HI} {n k : Nat} (h1 : 1 ≤ n) (h5 : n ≤ 5) (k1 : 1 ≤ k) (hk : k ≤ (cov n).length) (e1 : I0 0 1 = nI n) (e3 : I0 0 3 = nI (2 ^ n)) (hn : ballI I0 n) {Q : Int32 → HI → Prop} (h0 : k < (cov n).length → ∀ I, Fr crP I0 I → Q 0 I) (hs : k = (cov n).length → ∀ I, Fr crP I0 I → I 0 54 = nI (cov n).length → (∀ i, i < (cov n).length → I 31 i = nI ((cov n).getD i 0)) → Q 1 I) : M_covers I0 (nI k) Q := by
  obtain ⟨c1, c2, c3, c4, c5⟩ := cov_k n (by omega) h1
  obtain ⟨a1, a2, a3⟩ := allN_k n (by omega) h1
  have b21 : M_covers_b21 I0 (nI k) (nI (allN n)) Q := by
    unfold M_covers_b21
    refine ⟨18000, ?_⟩
    have f0 : Fr crP I0 (up2 (up2 I0 31 0 (-1)) 34 0 0) := (Fr.rf.up (by unfold crP; omega)).up (by unfold crP; omega)
    have S0 : stk3 (up2 (up2 I0 31 0 (-1)) 34 0 0) [(0, 0)] := ⟨by show (up2 (up2 I0 31 0 (-1)) 34 0 0) 31 0 = -1; rw [up2_get, if_neg (by omega), up2_same], by show (up2 (up2 I0 31 0 (-1)) 34 0 0) 34 0 = nI 0; rw [up2_same]; rfl, trivial⟩
    by_cases e : k < (cov n).length
    · exact covers_38 (res := none) h1 h5 (by omega) e1 e3 hn (fun _ => h0 e) (fun l q => by cases q) 18000 [(0, 0)] _ (rfB_n h1 h5 k1 e) (fun p hp => by cases List.mem_singleton.mp hp; exact ⟨by omega, by omega⟩) (fun p hp => by cases hp) (by show 1 ≤ k + 1; omega) f0 S0
    · have e : k = (cov n).length := by omega
      have hr := rfB_y h1 h5
      rw [← e] at hr
      exact covers_38 (res := some (cov n)) h1 h5 (by omega) e1 e3 hn (fun q => by cases q) (fun l q => by cases q; exact hs e) 18000 [(0, 0)] _ hr (fun p hp => by cases List.mem_singleton.mp hp; exact ⟨by omega, by omega⟩) (fun p hp => by cases hp) (by show 1 ≤ k + 1; omega) f0 S0
  unfold M_covers
  rw [e3]
  refine ic (fun q => ?_) (fun q => ?_)
  · rw [a2 q] at b21; exact b21
  · rw [a3 q]; exact b21
theorem isGiven_k {I : HI} {n x : Nat} (h1 : 1 ≤ n) (h5 : n ≤ 5) (e54 : I 0 54 = nI (cov n).length) (hg : ∀ i, i < (cov n).length → I 31 i = nI ((cov n).getD i 0)) (hx : x < 32) {Q : Int32 → Prop} (hQ : Q (b01 (decide (x ∈ cov n)))) : M_isGiven I (nI x) Q := by
  obtain ⟨k1, k2, k3, k4, k5⟩ := cov_k n (by omega) h1
  have key : ∀ d i (acc : Bool), i + d = (cov n).length → (∀ b : Bool, (b = true ↔ acc = true ∨ ∃ j, i ≤ j ∧ j < (cov n).length ∧ (cov n).getD j 0 = x) → Q (b01 b)) → M_isGiven_l4 I (nI x) Q (d + 1) (b01 acc) (nI i) := by
    intro d
    induction d with
    | zero =>
      intro i acc hi hK
      rw [M_isGiven_l4, e54]
      refine it (nI_le (by omega) (by omega)) ⟨?_, hK acc ⟨fun q => Or.inl q, fun q => ?_⟩⟩
      · cases acc
        · exact zb_0
        · exact zb_1
      · rcases q with q | ⟨j, h1, h2, _⟩
        · exact q
        · omega
    | succ d ih =>
      intro i acc hi hK
      have := (k5 i (by omega)).2
      rw [M_isGiven_l4, e54, nx_nI (by omega), hg i (by omega)]
      simp only [nI_1]
      refine ie (nI_ge (by omega) (by omega)) ?_
      cases acc with
      | true => exact ie (by decide) (ih (i + 1) true (by omega) (fun b hb => hK b (hb.trans ⟨fun _ => Or.inl rfl, fun _ => Or.inl rfl⟩)))
      | false =>
        refine it rfl ⟨vin (by omega) (by omega), ic (fun hc => ?_) (fun hc => ?_)⟩
        · rw [nI_eq (by omega) (by omega)] at hc
          exact ih (i + 1) true (by omega) (fun b hb => hK b (hb.trans ⟨fun _ => Or.inr ⟨i, Nat.le_refl _, by omega, hc⟩, fun _ => Or.inl rfl⟩))
        · rw [nI_eq (by omega) (by omega)] at hc
          refine ih (i + 1) false (by omega) (fun b hb => hK b (hb.trans ⟨fun q => ?_, fun q => ?_⟩))
          · rcases q with q | ⟨j, h2, h3, h4⟩
            · cases q
            · exact Or.inr ⟨j, by omega, h3, h4⟩
          · rcases q with q | ⟨j, h2, h3, h4⟩
            · cases q
            · by_cases e : j = i
              · rw [e] at h4; exact absurd h4 hc
              · exact Or.inr ⟨j, by omega, h3, h4⟩
  refine ⟨(cov n).length + 1, key (cov n).length 0 false (by omega) (fun b hb => ?_)⟩
  have e : b = decide (x ∈ cov n) := by
    by_cases q : x ∈ cov n
    · obtain ⟨j, h2, h3⟩ := mem_getD.mp q
      rw [decide_eq_true q]
      exact hb.mpr (Or.inr ⟨j, by omega, h2, h3⟩)
    · rw [decide_eq_false q]
      cases b with
      | false => rfl
      | true =>
        rcases hb.mp rfl with q2 | ⟨j, _, h2, h3⟩
        · cases q2
        · exact absurd (mem_getD.mpr ⟨j, h2, h3⟩) q
  rw [e]; exact hQ
def ctab (I : HI) (n i : Nat) : Prop := ∀ w, w < i → I 4 w = 0 ∧ ∀ v, v < 2 ^ (n - 1) → I 5 (1024 * w + v) = nI (cvt n w v)
theorem cover_194 {I0 : HI} {n : Nat} (h1 : 1 ≤ n) (h5 : n ≤ 5) (N0 : MN I0 n 2 (oth n) z0) (e3 : I0 0 3 = nI (2 ^ n)) (e54 : I0 0 54 = nI (cov n).length) (hg : ∀ i, i < (cov n).length → I0 31 i = nI ((cov n).getD i 0)) {Q : Int32 → HI → Prop} (hQ : ∀ I, Fr (fun b _ => b = 4 ∨ b = 5 ∨ b = 17) I0 I → ctab I n n → Q (nI (cov n).length) (up2 I 0 40 0)) : ∀ d i I, i + d = n → Fr (fun b _ => b = 4 ∨ b = 5 ∨ b = 17) I0 I → ctab I n i → M_cover_l194 Q (d + 1) I (nI i) := by
  have p := p25 h5
  have W0 : WF (aOpen n 2) := aOpen_WF h1 (by omega) (by omega) (by omega) (by omega)
  intro d
  induction d with
  | zero =>
    intro i I hi f ht
    have : i = n := by omega
    subst this
    rw [M_cover_l194, f _ _ (by omega), N0.1]
    refine it (nI_le (Nat.le_refl _) (by omega)) ?_
    rw [show (up2 I 0 40 0) 0 54 = nI (cov i).length from by rw [up2_get, if_neg (by omega), f _ _ (by omega)]; exact e54]
    exact hQ I f ht
  | succ d ih =>
    intro i I hi f ht
    have hi' : i < n := by omega
    obtain ⟨av1, av2⟩ := avw_o n (by omega) h1 i hi'
    have NI : MN I n 2 (oth n) z0 := N0.fr f (by omega) (by omega) (fun _ _ => by omega) (fun _ _ => by omega)
    rw [M_cover_l194, NI.1]
    refine ie (nI_ge hi' (by omega)) (M_blank_k NI hi' (fun I1 f1 z1 k1 => ⟨2 ^ n + 1, ?_⟩))
    have k1 : I1 4 i = 0 := by rw [k1, if_pos (by omega)]; rfl
    have inner : ∀ e r J, r + e = 2 ^ n → Fr (fun b k => b = 17 ∨ bP i b k) I J → J 4 i = 0 → (∀ v, v < 2 ^ (n - 1) → rvw i v < r → J 5 (1024 * i + v) = nI (cvt n i v)) → M_cover_l209 (nI i) (fun I' x1' => M_cover_l194 Q (d + 1) I' x1') Q (e + 1) J (nI r) := by
      intro e
      induction e with
      | zero =>
        intro r J he fJ k4 hJ
        have lo : ∀ b k, b ≠ 4 → b ≠ 5 → b ≠ 17 → J b k = I0 b k := fun b k h1 h2 h3 => by rw [fJ _ _ (by unfold bP; omega), f _ _ (by omega)]
        rw [M_cover_l209, lo _ _ (by omega) (by omega) (by omega), e3, nI_1]
        refine it (nI_le (by omega) (by omega)) (ih (i + 1) J (by omega) (f.tr (fJ.mono (fun b k hb => by unfold bP at hb; omega))) (fun w hw => ?_))
        by_cases ew : w = i
        · subst ew
          refine ⟨k4, fun v hv => hJ v hv ?_⟩
          have := (rvw_k n (by omega) h1 w hi' v hv).2.2.1
          omega
        · obtain ⟨g1, g2⟩ := ht w (by omega)
          exact ⟨by rw [fJ _ _ (by unfold bP; omega)]; exact g1, fun v hv => by rw [fJ _ _ (by unfold bP; omega)]; exact g2 v hv⟩
      | succ e ihe =>
        intro r J he fJ k4 hJ
        have hr : r < 2 ^ n := by omega
        have lo : ∀ b k, b ≠ 4 → b ≠ 5 → b ≠ 17 → J b k = I0 b k := fun b k h1 h2 h3 => by rw [fJ _ _ (by unfold bP; omega), f _ _ (by omega)]
        have NJ : MN J n 2 (oth n) z0 := N0.fr (P := fun b _ => b = 4 ∨ b = 5 ∨ b = 17) (fun b k hn => lo b k (by omega) (by omega) (by omega)) (by omega) (by omega) (fun _ _ => by omega) (fun _ _ => by omega)
        rw [M_cover_l209, lo _ _ (by omega) (by omega) (by omega), e3]
        simp only [nI_1]
        refine ie (nI_ge (by omega) (by omega)) (ic (fun hb => ?_) (fun hb => ?_))
        · rw [nBit1 (by omega) (by omega)] at hb
          refine ihe (r + 1) J (by omega) fJ k4 (fun v hv hlt => ?_)
          by_cases er : rvw i v = r
          · have := (rvw_k n (by omega) h1 i hi' v hv).2.2.2.2.1
            rw [er, hb] at this; cases this
          · exact hJ v hv (by omega)
        · rw [nBit1 (by omega) (by omega)] at hb
          have hb : r.testBit i = false := by cases q : r.testBit i; rfl; exact absurd q hb
          obtain ⟨v1, v2, v3⟩ := vvw_k n (by omega) h1 i hi' r hr hb
          obtain ⟨r1, r2, r3, r4, r5, r6⟩ := rvw_k n (by omega) h1 i hi' (vvw i r) v2
          rw [v1] at r2 r4
          refine M_wears_k NJ.1 NJ.2.1 (by omega) (by omega) (by omega) (by omega) (fun I3 f3 h17 => ?_)
          have N3 : MN I3 n 2 (oth n) z0 := NJ.fr f3 (by omega) (by omega) (fun _ _ => by omega) (fun _ _ => by omega)
          have g31 : ∀ k, k < (cov n).length → I3 31 k = nI ((cov n).getD k 0) := fun k hk => by rw [f3 _ _ (by omega), lo _ _ (by omega) (by omega) (by omega)]; exact hg k hk
          have g54 : I3 0 54 = nI (cov n).length := by rw [f3 _ _ (by omega), lo _ _ (by omega) (by omega) (by omega)]; exact e54
          rw [r2]
          refine isGiven_k h1 h5 g54 g31 (by omega) (isGiven_k h1 h5 g54 g31 (by omega) (M_viewOf_m (a := aOpen n 2) (h := hat (aOpen n 2) r) (g := z0) W0 N3 h17 (fun k _ hk => absurd hk (by show ¬ 0 < 0; omega)) hi' ?_))
          rw [v3, nlit1024, nM, nI_add, nx_nI (by omega)]
          have vv : vp_in (nI (1024 * i + vvw i r)) 8192 := vin (by omega) (by omega)
          have go : ∀ y, y = nI (cvt n i (vvw i r)) → vp_in (nI (1024 * i + vvw i r)) 8192 ∧ M_cover_l209 (nI i) (fun I' x1' => M_cover_l194 Q (d + 1) I' x1') Q (e + 1) (up2 I3 5 (1024 * i + vvw i r) y) (nI (r + 1)) := by
            intro y hy
            refine ⟨vv, ihe (r + 1) _ (by omega) ((fJ.tr (f3.mono (fun b k hb => Or.inl hb))).up (Or.inr (by unfold bP; omega))) ?_ (fun v hv hlt => ?_)⟩
            · rw [up2_get, if_neg (by omega), f3 _ _ (by omega)]; exact k4
            · rw [up2_get]
              by_cases ev : v = vvw i r
              · rw [if_pos ⟨rfl, by omega⟩, hy, ev]
              · rw [if_neg (by omega), f3 _ _ (by omega)]
                refine hJ v hv ?_
                have : rvw i v ≠ r := fun q => ev (by rw [← (rvw_k n (by omega) h1 i hi' v hv).2.2.2.2.2, q])
                omega
          have ge : cvt n i (vvw i r) = gbt (decide (r ∈ cov n)) (decide (r ||| 2 ^ i ∈ cov n)) := by unfold cvt; rw [v1]
          generalize decide (r ∈ cov n) = x at ge ⊢
          generalize decide (r ||| 2 ^ i ∈ cov n) = y at ge ⊢
          cases x <;> cases y
          · exact it rfl (it rfl (go 2 (by rw [ge]; rfl)))
          · exact ie (by decide) (it rfl (go 0 (by rw [ge]; rfl)))
          · exact ie (by decide) (ie (by decide) (go 1 (by rw [ge]; rfl)))
          · exact it rfl (ie (by decide) (go 0 (by rw [ge]; rfl)))
    exact inner (2 ^ n) 0 I1 (by omega) (f1.mono (fun b k hb => Or.inr hb)) k1 (fun v hv hlt => by omega)
theorem cover_104 {I0 : HI} {a : AN} {n : Nat} (W : WF a) (R : RepM I0 a) (en : an a = n) (eq : aq a = 2) (h5 : n ≤ 5) (e35 : I0 35 n = nI (cov n).length) (h36 : ∀ i, i < (cov n).length → I0 36 (32 * n + i) = nI ((cov n).getD i 0)) {Q : Int32 → HI → Prop} (hQ : ∀ I, Fr (fun b i => (2 ≤ b ∧ b ≤ 5) ∨ b = 17 ∨ b = 31 ∨ b = 0 ∧ (i = 54 ∨ i = 40)) I0 I → RepM I (aAll (aOpen n 2) (cvt n) n) → I 0 54 = nI (cov n).length → (∀ i, i < (cov n).length → I 31 i = nI ((cov n).getD i 0)) → I 0 40 = 0 → Q (nI (cov n).length) I) : M_cover_b104 I0 Q := by
  have h1 : 1 ≤ n := by have := W.1; omega
  have p := p25 h5
  obtain ⟨k1, k2, k3, k4, k5⟩ := cov_k n (by omega) h1
  have e1 : I0 0 1 = nI n := by rw [← en]; exact R.1.1
  have e2 : I0 0 2 = nI 2 := by have q := R.1.2.1; rw [eq] at q; exact q
  have e3 : I0 0 3 = nI (2 ^ n) := by rw [R.2.1, en, eq]
  unfold M_cover_b104
  rw [e1, nx_nI (by omega), e35]
  refine ⟨vin (by omega) (by omega), (cov n).length + 1, ?_⟩
  have l119 : ∀ d i I, i + d = (cov n).length → Fr (fun b i => b = 31 ∨ b = 0 ∧ i = 54) I0 I → I 0 54 = nI (cov n).length → (∀ j, j < i → I 31 j = nI ((cov n).getD j 0)) → M_cover_l119 Q (d + 1) I (nI i) := by
    intro d
    induction d with
    | zero =>
      intro i I hi f e54 hg
      rw [M_cover_l119, e54]
      refine it (nI_le (by omega) (by omega)) ⟨n + 1, ?_⟩
      have hg : ∀ j, j < (cov n).length → I 31 j = nI ((cov n).getD j 0) := fun j hj => hg j (by omega)
      have l155 : ∀ d w J, w + d = n → Fr (fun b _ => b = 2 ∨ b = 3) I J → (∀ j, j < w → J 2 j = nI (oth n j) ∧ J 3 j = 0) → M_cover_l155 Q (d + 1) J (nI w) := by
        intro d
        induction d with
        | zero =>
          intro w J hw fJ hJ
          have c1 : J 0 1 = nI n := by rw [fJ _ _ (by omega), f _ _ (by omega)]; exact e1
          have c2 : J 0 2 = nI 2 := by rw [fJ _ _ (by omega), f _ _ (by omega)]; exact e2
          have c3 : J 0 3 = nI (2 ^ n) := by rw [fJ _ _ (by omega), f _ _ (by omega)]; exact e3
          have NJ : MN J n 2 (oth n) z0 := ⟨c1, c2, fun j hj => (hJ j (by omega)).1, fun j hj => (hJ j (by omega)).2, h1, by omega, by omega, by omega, fun j _ => oth_lt n j, fun _ _ => Nat.zero_le _⟩
          rw [M_cover_l155, c1]
          refine it (nI_le (by omega) (by omega)) ⟨n + 1, cover_194 h1 h5 NJ c3 (by rw [fJ _ _ (by omega)]; exact e54) (fun j hj => by rw [fJ _ _ (by omega)]; exact hg j hj) (fun I' f' ht => ?_) n 0 J (by omega) Fr.rf (fun w hw => by omega)⟩
          have fall : Fr (fun b i => (2 ≤ b ∧ b ≤ 5) ∨ b = 17 ∨ b = 31 ∨ b = 0 ∧ (i = 54 ∨ i = 40)) I0 (up2 I' 0 40 0) := (((f.mono (fun b i hb => by omega)).tr (fJ.mono (fun b i hb => by omega))).tr (f'.mono (fun b i hb => by omega))).up (by omega)
          have lo : ∀ b k, b ≠ 4 → b ≠ 5 → b ≠ 17 → ¬ (b = 0 ∧ k = 40) → (up2 I' 0 40 0) b k = J b k := fun b k h1 h2 h3 h4 => by rw [up2_get, if_neg (by omega), f' _ _ (by omega)]
          refine hQ _ fall ⟨⟨?_, ?_, fun w hw => ?_, fun w hw => ?_, h1, show n ≤ 8 by omega, show 2 ≤ 2 by omega, show 2 ≤ 4 by omega, fun w _ => oth_lt n w, fun _ _ => Nat.zero_le _⟩, ?_, fun w hw => ?_⟩ ?_ (fun i hi => ?_) (up2_same _ _ _ _)
          · rw [lo _ _ (by omega) (by omega) (by omega) (by omega)]; exact c1
          · rw [lo _ _ (by omega) (by omega) (by omega) (by omega)]; exact c2
          · have hw : w < n := hw
            rw [lo _ _ (by omega) (by omega) (by omega) (by omega)]; exact (hJ w (by omega)).1
          · have hw : w < n := hw
            rw [lo _ _ (by omega) (by omega) (by omega) (by omega)]; exact (hJ w (by omega)).2
          · rw [lo _ _ (by omega) (by omega) (by omega) (by omega)]; exact c3
          · have hw : w < n := hw
            obtain ⟨g1, g2⟩ := ht w hw
            show (up2 I' 0 40 0) 4 w = nI (if w < n then 0 else _) ∧ ((if w < n then 0 else _) = 0 → ∀ v, v < avw (aOpen n 2) w → (up2 I' 0 40 0) 5 (1024 * w + v) = nI ((if w < n then cvt n w else _) v)) ∧ ((if w < n then 0 else _) = 1 → _)
            rw [if_pos hw, if_pos hw]
            refine ⟨by rw [up2_get, if_neg (by omega)]; exact g1, fun _ v hv => ?_, fun q => by omega⟩
            rw [up2_get, if_neg (by omega)]
            exact g2 v (by have := (avw_o n (by omega) h1 w hw).1; have hv : v < vw n 2 (oth n) z0 w := hv; omega)
          · rw [lo _ _ (by omega) (by omega) (by omega) (by omega), fJ _ _ (by omega)]; exact e54
          · rw [lo _ _ (by omega) (by omega) (by omega) (by omega), fJ _ _ (by omega)]; exact hg i hi
        | succ d ih =>
          intro w J hw fJ hJ
          have c1 : J 0 1 = nI n := by rw [fJ _ _ (by omega), f _ _ (by omega)]; exact e1
          rw [M_cover_l155, c1]
          unfold M_all
          rw [c1, nShl1 n (by omega), show (nI (2 ^ n) - 1 : Int32) = nI (2 ^ n - 1) from by rw [nlit1, nS Nat.one_le_two_pow], nShl1 w (by omega), nx_nI (by omega), nI_1]
          have v8 : vp_in (nI w) 8 := vin (by omega) (by omega)
          refine ie (nI_ge (by omega) (by omega)) ?_
          show vp_in (nI w) 8 ∧ vp_in (nI w) 8 ∧ M_cover_l155 Q (d + 1) (up2 (up2 J 2 w (nI (2 ^ n - 1) &&& (nI (2 ^ w) ^^^ -1))) 3 w 0) (nI (w + 1))
          rw [oth_k n (by omega) w (by omega)]
          refine ⟨v8, v8, ih (w + 1) _ (by omega) ((fJ.up (by omega)).up (by omega)) (fun j hj => ?_)⟩
          by_cases ej : j = w
          · rw [ej, up2_get, if_neg (by omega), up2_same, up2_same]; exact ⟨rfl, rfl⟩
          · rw [up2_get, if_neg (by omega), up2_get, if_neg (by omega), up2_get, if_neg (by omega), up2_get, if_neg (by omega)]; exact hJ j (by omega)
      exact l155 n 0 I (by omega) Fr.rf (fun j hj => by omega)
    | succ d ih =>
      intro i I hi f e54 hg
      rw [M_cover_l119, e54, f 0 1 (by omega), e1, show (32 : Int32) = nI 32 from rfl, nM, nI_add, nx_nI (show i < 2 ^ 31 by omega), nx_nI (show 32 * n + i < 2 ^ 31 by omega), f 36 _ (by omega), h36 i (by omega), nI_1]
      refine ie (nI_ge (by omega) (by omega)) ⟨vin (by omega) (by omega), vin (by omega) (by omega), ih (i + 1) _ (by omega) (f.up (by omega)) (by rw [up2_get, if_neg (by omega)]; exact e54) (fun j hj => ?_)⟩
      rw [up2_get]
      by_cases ej : j = i
      · rw [if_pos ⟨rfl, ej⟩, ej]
      · rw [if_neg (by omega)]; exact hg j (by omega)
  exact l119 (cov n).length 0 _ (by omega) (Fr.rf.up (by omega)) (up2_same _ _ _ _) (fun j hj => by omega)
def fndI (IM : HI) (n : Nat) : Prop := IM 35 n = 0 ∨ (IM 35 n = nI (cov n).length ∧ ∀ i, i < (cov n).length → IM 36 (32 * n + i) = nI ((cov n).getD i 0))
theorem M_cover_y {IM : HI} {a : AN} {n : Nat} (W : WF a) (R : RepM IM a) (en : an a = n) (eq : aq a = 2) (h5 : n ≤ 5) (hf : fndI IM n) {Q : Int32 → HI → Prop} (hQ : ∀ I, Fr (fun b i => (2 ≤ b ∧ b ≤ 5) ∨ b = 17 ∨ (31 ≤ b ∧ b ≤ 34) ∨ b = 35 ∧ i = n ∨ b = 36 ∧ 32 * n ≤ i ∧ i < 32 * n + 32 ∨ b = 0 ∧ (i = 0 ∨ i = 54 ∨ i = 40)) IM I → RepM I (aAll (aOpen n 2) (cvt n) n) → I 0 54 = nI (cov n).length → (∀ i, i < (cov n).length → I 31 i = nI ((cov n).getD i 0)) → I 0 40 = 0 → fndI I n → Q (nI (cov n).length) I) : M_cover IM Q := by
  have h1 : 1 ≤ n := by have := W.1; omega
  have p := p25 h5
  obtain ⟨k1, k2, k3, k4, k5⟩ := cov_k n (by omega) h1
  have k0 := Fr0 IM 0
  have R0 : RepM (up2 IM 0 0 0) a := R.eq (fun b i hb => k0 _ _ (by omega))
  have e1 : (up2 IM 0 0 0) 0 1 = nI n := by rw [← en]; exact R0.1.1
  have e2 : (up2 IM 0 0 0) 0 2 = nI 2 := by have q := R0.1.2.1; rw [eq] at q; exact q
  have e3 : (up2 IM 0 0 0) 0 3 = nI (2 ^ n) := by rw [R0.2.1, en, eq]
  unfold M_cover
  rw [e1, e2, nx_nI (by omega), k0 35 n (by omega)]
  refine it rfl (it (nI_le (b := 5) h5 (by omega)) ⟨vin (by omega) (by omega), ?_⟩)
  rcases hf with hf | ⟨hf1, hf2⟩
  · rw [hf]
    refine it rfl (balls_k h5 e1 e3 (fun I1 f1 hb => ⟨(cov n).length - 1 + 1, ?_⟩))
    have loop : ∀ d k I, k + d = (cov n).length → 1 ≤ k → Fr (fun b i => b = 32 ∨ b = 33 ∨ crP b i) (up2 IM 0 0 0) I → ballI I n → M_cover_l41 Q (d + 1) I (nI k) := by
      intro d
      induction d with
      | zero =>
        intro k I hk hk1 f hb
        rw [M_cover_l41]
        refine covers_k h1 h5 hk1 (by omega) ((f _ _ (by unfold crP; omega)).trans e1) ((f _ _ (by unfold crP; omega)).trans e3) hb (fun q => by omega) (fun _ I2 f2 e54 h31 => ie (by decide) ?_)
        have c1 : I2 0 1 = nI n := by rw [f2 _ _ (by unfold crP; omega), f _ _ (by unfold crP; omega)]; exact e1
        rw [c1, nx_nI (by omega), e54]
        refine ⟨vin (by omega) (by omega), (cov n).length + 1, ?_⟩
        have l70 : ∀ d i J, i + d = (cov n).length → Fr (fun b k => b = 35 ∧ k = n ∨ b = 36 ∧ 32 * n ≤ k ∧ k < 32 * n + 32) I2 J → J 35 n = nI (cov n).length → (∀ j, j < i → J 36 (32 * n + j) = nI ((cov n).getD j 0)) → M_cover_l70 Q (d + 1) J (nI i) := by
          intro d
          induction d with
          | zero =>
            intro i J hi fJ j35 j36
            have fx : Fr (fun b i => b = 32 ∨ b = 33 ∨ crP b i ∨ b = 35 ∧ i = n ∨ b = 36 ∧ 32 * n ≤ i ∧ i < 32 * n + 32 ∨ b = 0 ∧ i = 0) IM J := (k0.mono (fun b i hb => by omega)).tr (((f.mono (fun b i hb => by unfold crP at hb ⊢; omega)).tr (f2.mono (fun b i hb => by unfold crP at hb ⊢; omega))).tr (fJ.mono (fun b i hb => by omega)))
            have RJ : RepM J a := R.eq (fun b i hb => fx _ _ (by unfold crP; omega))
            rw [M_cover_l70, fJ _ _ (by omega), e54]
            refine it (nI_le (by omega) (by omega)) (cover_104 W RJ en eq h5 j35 (fun i hi => j36 i (by omega)) (fun I' f' R' h54 h31' h40 => hQ I' ((fx.mono (fun b i hb => by unfold crP at hb; omega)).tr (f'.mono (fun b i hb => by omega))) R' h54 h31' h40 (Or.inr ⟨(f' _ _ (by omega)).trans j35, fun i hi => (f' _ _ (by omega)).trans (j36 i (by omega))⟩)))
          | succ d ih =>
            intro i J hi fJ j35 j36
            rw [M_cover_l70, fJ 0 _ (by omega), e54, fJ 0 _ (by omega), c1, show (32 : Int32) = nI 32 from rfl, nM, nI_add, nx_nI (show i < 2 ^ 31 by omega), nx_nI (show 32 * n + i < 2 ^ 31 by omega), fJ 31 _ (by omega), h31 i (by omega), nI_1]
            refine ie (nI_ge (by omega) (by omega)) ⟨vin (by omega) (by omega), vin (by omega) (by omega), ih (i + 1) _ (by omega) (fJ.up (by omega)) (by rw [up2_get, if_neg (by omega)]; exact j35) (fun j hj => ?_)⟩
            rw [up2_get]
            by_cases ej : j = i
            · rw [if_pos ⟨rfl, by omega⟩, ej]
            · rw [if_neg (by omega)]; exact j36 j (by omega)
        exact l70 (cov n).length 0 _ (by omega) (Fr.rf.up (by omega)) (up2_same _ _ _ _) (fun j hj => by omega)
      | succ d ih =>
        intro k I hk hk1 f hb
        rw [M_cover_l41]
        refine covers_k h1 h5 hk1 (by omega) ((f _ _ (by unfold crP; omega)).trans e1) ((f _ _ (by unfold crP; omega)).trans e3) hb (fun _ I2 f2 => it rfl ?_) (fun q => by omega)
        rw [nI_1]
        exact ih (k + 1) I2 (by omega) (by omega) (f.tr (f2.mono (fun b i hb => Or.inr (Or.inr hb)))) (fun r hr => ⟨(f2 _ _ (by unfold crP; omega)).trans (hb r hr).1, (f2 _ _ (by unfold crP; omega)).trans (hb r hr).2⟩)
    exact loop ((cov n).length - 1) 1 I1 (by omega) (by omega) (f1.mono (fun b i hb => by omega)) hb
  · rw [hf1]
    exact ie (nI_ne0 (by omega) (by omega)) (cover_104 W R0 en eq h5 ((k0 _ _ (by omega)).trans hf1) (fun i hi => (k0 _ _ (by omega)).trans (hf2 i hi)) (fun I' f' R' h54 h31' h40 => hQ I' ((k0.mono (fun b i hb => by omega)).tr (f'.mono (fun b i hb => by omega))) R' h54 h31' h40 (Or.inr ⟨by rw [f' _ _ (by omega), k0 _ _ (by omega)]; exact hf1, fun i hi => by rw [f' _ _ (by omega), k0 _ _ (by omega)]; exact hf2 i hi⟩)))
theorem st_cover {ro : Nat} {I : HI} {J : HJ} {T F : HR} {L : HL} {IM : HI} {JM : HJ} (hI : Inv ro (I, J, T, F, L) IM JM) : St_cover I J T F L ro IM JM (Inv ro) := by
  obtain ⟨own, h, a, B⟩ := Inv_el hI
  have B0 := B
  have no : Inv ro (I, J, T, F, L) (up2 IM 0 0 0) JM := Inv_mk (B.thr (Fr0 IM 0))
  obtain ⟨W, R, N, C, b5, b6, b7⟩ := B
  have o56 := b7.1.1
  have nz := nz_own b7.1
  have n8 := W.2.1
  have n1 := W.1
  have q4 := W.2.2.2.1
  unfold St_cover H_cover
  rw [N.2.1, N.1]
  by_cases hq : aq a = 2
  · refine it (by rw [hq]; rfl) ?_
    by_cases h5 : an a ≤ 5
    · have p := p25 h5
      refine it (nI_le (b := 5) h5 (by omega)) ?_
      obtain ⟨⟨c, c1, c2, c3, c4, c5⟩, c6⟩ := id b7.2.2.2.2.2.2.2.2.1
      obtain ⟨k1, k2, k3, k4, k5⟩ := cov_k (an a) (by omega) n1
      refine Cov_seek_k n1 h5 c1 c2 (fun e => by subst e; exact ⟨c1, c3, fun i hi => (c5 i hi).1⟩) (fun I1 f1 hc => ?_)
      have N1 : CN I1 1 a := N.eq (fun j i hj => f1 _ _ (by unfold cvP; omega))
      have O1 : OI I1 1 (an a) 2 0 := ⟨N1.1, by rw [N1.2.1, hq], by rw [N1.2.2.1, hq], N1.2.2.2.2.2.2.2.2.1, fun k hk => by omega⟩
      refine Cov_settle_k (F := F) n1 h5 O1 hc o56 C.2.1 (fun I3 T4 f3 ft N3 C3 => ?_)
      unfold Led_spoil
      show M_cover IM (fun rb IM2 => (up2 I3 26 1 0) 44 0 = rb ∧ Inv ro (up2 I3 26 1 0, J, T4, F, L) IM2 JM)
      rw [show (up2 I3 26 1 0) 44 0 = nI (cov (an a)).length from by rw [up2_get, if_neg (by omega), f3 _ _ (by unfold nP; omega)]; exact hc.2.1]
      have W2 : WF (aAll (aOpen (an a) 2) (cvt (an a)) (an a)) := aAll_WF (aOpen_WF n1 n8 (by omega) (by omega) (by omega)) (fun w hw => by have := avw_o (an a) (by omega) n1 w hw; show vw (an a) 2 (oth (an a)) z0 w ≤ 1024; omega) (fun w _ v _ => cvt_le _ w v) _ (Nat.le_refl _)
      refine M_cover_y W R rfl hq h5 (c6 (an a) n1 h5) (fun IM' fm RM' h54 h31 h40 hfn => ⟨rfl, Inv_mk (B0.gen (I' := up2 I3 26 1 0) (T' := T4) (IM' := IM') (a' := aAll (aOpen (an a) 2) (cvt (an a)) (an a)) W2 RM' (N3.eq (fun j i hj => by rw [up2_get, if_neg (by omega)])) (C3.fr (fun b i hb => by have := nz b; rw [up2_get, if_neg (by omega)]) (fun _ _ => rfl) n8 Ext.rf) (Or.inl h40) (Or.inl (up2_same _ _ _ _)) ?_ ?_ ?_ ?_ ?_ ?_ ?_ ?_ ?_ ?_)⟩)
      all_goals have g : ∀ b i, ¬ (1 ≤ b ∧ b ≤ 9) → ¬ cvP b i → ¬ (b = 26 ∧ i = 1) → (up2 I3 26 1 0) b i = I b i := fun b i h1 h2 h3 => by rw [up2_get, if_neg h3, f3 _ _ (by unfold nP; omega)]; exact f1 _ _ h2
      · intro i hi; rw [g _ _ (by omega) (by unfold cvP; omega) (by omega)]; exact b7.2.2.1 i hi
      · exact b7.2.2.2.1.eq (fun b i hb => g _ _ (by omega) (by unfold cvP; omega) (by omega)) (fun b i hb => fm _ _ (by omega))
      · exact b7.2.2.2.2.1.eq (fun b i hb => g _ _ (by omega) (by unfold cvP; omega) (by omega)) (fun b i hb => fm _ _ (by omega))
      · rw [g _ _ (by omega) (by unfold cvP; omega) (by omega), fm _ _ (by omega)]; exact b7.2.2.2.2.2.1
      · rw [g _ _ (by omega) (by unfold cvP; omega) (by omega), fm _ _ (by omega)]; exact b7.2.2.2.2.2.2.1
      · exact b7.2.2.2.2.2.2.2.1.eq (fun b i hb => g _ _ (by omega) (by unfold cvP; omega) (by omega)) (fun b i hb => fm _ _ (by omega))
      · have g44 : ∀ b i, ¬ (1 ≤ b ∧ b ≤ 9) → b ≠ 26 → (up2 I3 26 1 0) b i = I1 b i := fun b i h1 h2 => by rw [up2_get, if_neg (by omega)]; exact f3 _ _ (by unfold nP; omega)
        refine ⟨⟨an a, ?_, h5, ?_, h54, fun i hi => ⟨?_, h31 i hi⟩⟩, fun n h1 h5' => ?_⟩
        · rw [g44 _ _ (by omega) (by omega)]; exact hc.1
        · rw [g44 _ _ (by omega) (by omega)]; exact hc.2.1
        · rw [g44 _ _ (by omega) (by omega)]; exact hc.2.2 i hi
        · by_cases e : n = an a
          · rw [e]; exact hfn
          · have kn := cov_k n (by omega) h1
            rcases c6 n h1 h5' with q | ⟨q1, q2⟩
            · exact Or.inl ((fm _ _ (by omega)).trans q)
            · exact Or.inr ⟨(fm _ _ (by omega)).trans q1, fun i hi => (fm _ _ (by omega)).trans (q2 i hi)⟩
      · intro b i hb
        have := nz b (by omega)
        exact g _ _ (by omega) (by unfold cvP; omega) (by omega)
      · intro b i hb
        refine ft _ _ ?_
        rcases hb with hb | hb
        · omega
        · have := nz b (by omega); omega
      · intro b i hb; exact fm _ _ (by omega)
    · refine ie (nI_ge (a := 5) (by omega) (by omega)) ?_
      unfold M_cover
      rw [Fr0 IM 0 0 1 (by omega), Fr0 IM 0 0 2 (by omega), R.1.1, R.1.2.1]
      exact it (by rw [hq]; rfl) (ie (nI_ge (a := 5) (by omega) (by omega)) ⟨rfl, no⟩)
  · have nq : ¬ nI (aq a) = 2 := fun q => hq (by rw [show (2 : Int32) = nI 2 from rfl, nI_eq (by omega) (by omega)] at q; exact q)
    refine ie nq ?_
    unfold M_cover
    rw [Fr0 IM 0 0 2 (by omega), R.1.2.1]
    exact ie nq ⟨rfl, no⟩
