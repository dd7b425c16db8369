/-! search -/
theorem views_k {I0 : HI} {a : AN} (W : WF a) (h : ato a) (R0 : RepM I0 a) {Q : HI → Prop} (hQ : ∀ I, Fr (fun b _ => b = 17 ∨ b = 25) I0 I → vws a I → Q I) : M_views I0 Q := by
  have n8 := W.2.1
  have r5 := W.2.2.2.2.1
  have key : ∀ d r I, r + d = aq a ^ an a → Fr (fun b _ => b = 17 ∨ b = 25) I0 I → (∀ r', r' < r → ∀ w, w < an a → I 25 (8 * r' + w) = nI (vwr a r' w)) → M_views_l2 Q (d + 1) I (nI r) := by
    intro d
    induction d with
    | zero =>
      intro r I hr f hv
      have : r = aq a ^ an a := by omega
      subst this
      rw [M_views_l2, f _ _ (by omega), R0.2.1]
      exact it (nI_le (Nat.le_refl _) (by omega)) (hQ I f hv)
    | succ d ih =>
      intro r I hr f hv
      have R1 : RepM I a := R0.eq (fun b i hb => f _ _ (by omega))
      rw [M_views_l2, R1.2.1]
      refine ie (nI_ge (by omega) (by omega)) (M_wears_k R1.1.1 R1.1.2.1 n8 W.2.2.1 W.2.2.2.1 (by omega) (fun I1 f1 h17 => ⟨an a + 1, ?_⟩))
      have h17 : ∀ w, w < an a → I1 17 w = nI (hat a r w) := h17
      have inner : ∀ e w J, w + e = an a → Fr (fun b _ => b = 25) I1 J → (∀ r', r' < r → ∀ w, w < an a → J 25 (8 * r' + w) = nI (vwr a r' w)) → (∀ j, j < w → J 25 (8 * r + j) = nI (vwr a r j)) → M_views_l17 (nI r) (fun I' x1' => M_views_l2 Q (d + 1) I' x1') Q (e + 1) J (nI w) := by
        intro e
        induction e with
        | zero =>
          intro w J hw fJ hJ hj
          rw [M_views_l17, fJ _ _ (by omega), f1 _ _ (by omega), R1.1.1, nI_1]
          refine it (nI_le (by omega) (by omega)) (ih (r + 1) J (by omega) ((f.tr (f1.mono (fun b i hb => Or.inl hb))).tr (fJ.mono (fun b i hb => Or.inr hb))) (fun r' hr' w' hw' => ?_))
          by_cases er : r' = r
          · rw [er]; exact hj w' (by omega)
          · exact hJ r' (by omega) w' hw'
        | succ e ihe =>
          intro w J hw fJ hJ hj
          have hw' : w < an a := by omega
          have RJ : RepM J a := R1.eq (fun b i hb => (fJ _ _ (by omega)).trans (f1 _ _ (by omega)))
          rw [M_views_l17, RJ.1.1]
          refine ie (nI_ge (by omega) (by omega)) (M_viewOf_k (h := hat a r) (g := z0) W ⟨RJ, fun k hk => (fJ _ _ (by omega)).trans (h17 k hk), fun k hk hr => ?_⟩ hw' ?_)
          · rw [(h k hk).1, (h w hw').1] at hr; omega
          · rw [nlit8, nM, nI_add, nx_nI (by omega), nI_1]
            refine ⟨vin (by omega) (by omega), ihe (w + 1) _ (by omega) (fJ.up rfl) (fun r' hr' w' hw' => ?_) (fun j hj' => ?_)⟩
            · rw [up2_get, if_neg (by omega)]; exact hJ r' hr' w' hw'
            · rw [up2_get]
              by_cases ej : j = w
              · rw [if_pos ⟨rfl, by omega⟩, ej]; rfl
              · rw [if_neg (by omega)]; exact hj j (by omega)
      exact inner (an a) 0 I1 (by omega) Fr.rf (fun r' hr' w hw => by rw [f1 _ _ (by omega)]; exact hv r' hr' w hw) (fun j hj => by omega)
  exact ⟨aq a ^ an a + 1, key (aq a ^ an a) 0 I0 (by omega) Fr.rf (fun r' hr' => by omega)⟩
theorem l318_k {I0 : HI} {a : AN} {st : Nat → Nat} (W : WF a) (h : ato a) (R0 : RepM I0 a) (hs : ∀ c, c < 8192 → I0 24 c = stv (st c)) (sl : ∀ c, st c ≤ aq a) {Q : Int32 → HI → Prop} (hQ : ∀ I, Fr (fun x _ => x = 4 ∨ x = 5) I0 I → RepM I (aAll a (srt st) (an a)) → Q 1 (up2 I 0 40 0)) : ∃ nn, M_search_l318 Q nn I0 0 := by
  have n8 := W.2.1
  have q4 := W.2.2.2.1
  have sl' : ∀ w v, srt st w v ≤ aq a := fun w v => by have := sl (1024 * w + v); unfold srt; omega
  have WA := aAll_WF (ts := srt st) W (fun w hw => (h w hw).2) (fun w _ v _ => sl' w v)
  have key : ∀ d i I, i + d = an a → Fr (fun x _ => x = 4 ∨ x = 5) I0 I → RepM I (aAll a (srt st) i) → M_search_l318 Q (d + 1) I (nI i) := by
    intro d
    induction d with
    | zero =>
      intro i I hi f R
      have : i = an a := by omega
      subst this
      rw [M_search_l318, R.1.1]
      exact it (nI_le (Nat.le_refl _) (by omega)) (hQ I f R)
    | succ d ih =>
      intro i I hi f R
      have hi' : i < an a := by omega
      rw [M_search_l318, show I 0 1 = nI (an a) from R.1.1, nx_nI (by omega)]
      refine ie (nI_ge (by omega) (by omega)) ⟨vin (by omega) (by omega), 1025, ?_⟩
      have inner : ∀ e v J, v + e = 1024 → Fr (fun x k => x = 4 ∧ k = i ∨ x = 5 ∧ 1024 * i ≤ k ∧ k < 1024 * i + 1024) I J → J 4 i = 0 → (∀ k, k < v → J 5 (1024 * i + k) = nI (srt st i k)) → M_search_l338 (nI i) (fun I' x5' => M_search_l318 Q (d + 1) I' x5') Q (e + 1) J (nI v) := by
        intro e
        induction e with
        | zero =>
          intro v J he fJ k4 ht
          rw [M_search_l338, nlit1024, nI_1]
          refine it (nI_le (by omega) (by omega)) ?_
          have hvi := (h i hi').2
          have R2 := RepM_tab (t := srt st i) (WA i (by omega)) R (show i < an (aAll a (srt st) i) from hi') fJ k4 (fun v' hv' => ht v' (by have hv' : v' < avw a i := hv'; omega))
          rw [aAll_s] at R2
          exact ih (i + 1) J (by omega) (f.tr (fJ.mono (fun x k hx => by omega))) R2
        | succ e ihe =>
          intro v J he fJ k4 ht
          have e24 : J 24 (1024 * i + v) = stv (st (1024 * i + v)) := by rw [fJ _ _ (by omega), f _ _ (by omega)]; exact hs _ (by omega)
          have s1 := sl (1024 * i + v)
          rw [M_search_l338, nlit1024, nM, nI_add, nx_nI (by omega), e24]
          simp only [nI_1]
          have vv : vp_in (nI (1024 * i + v)) 8192 := vin (by omega) (by omega)
          have go : ∀ y, y = nI (srt st i v) → M_search_l338 (nI i) (fun I' x5' => M_search_l318 Q (d + 1) I' x5') Q (e + 1) (up2 J 5 (1024 * i + v) y) (nI (v + 1)) := by
            intro y hy
            refine ihe (v + 1) _ (by omega) (fJ.up (by omega)) (by rw [up2_get, if_neg (by omega)]; exact k4) (fun k hk => ?_)
            rw [up2_get]
            by_cases ek : k = v
            · rw [if_pos ⟨rfl, by omega⟩, hy, ek]
            · rw [if_neg (by omega)]; exact ht k (by omega)
          refine ie (nI_ge (by omega) (by omega)) ⟨vv, ic (fun hc => ⟨vv, go 0 ?_⟩) (fun hc => ⟨vv, vv, go _ ?_⟩)⟩
          · rw [stv_m (by omega)] at hc
            unfold srt; rw [hc]; rfl
          · rw [stv_m (by omega)] at hc
            unfold stv srt; rw [if_neg hc]
      exact inner 1024 0 _ (by omega) (Fr.rf.up (by omega)) (up2_same _ _ _ _) (fun k hk => by omega)
  exact ⟨an a + 1, key (an a) 0 I0 (by omega) Fr.rf R0⟩
theorem M_search_y {IM : HI} {a : AN} {lim : Nat} (W : WF a) (h : ato a) (R : RepM IM a) (hl : lim ≤ 5000) {Q : Int32 → HI → Prop} (hQ : ∀ I, Fr (fun b i => b = 17 ∨ (24 ≤ b ∧ b ≤ 27) ∨ b = 0 ∧ (i = 0 ∨ i = 49)) IM I → I 0 0 = 0 → I 0 49 = nI (srR a lim).2.2.2.2.2 → RepM I a → SmI I (srR a lim).2 → FinM Q (srR a lim).1 I) : M_search IM (nI lim) Q := by
  have k0 := Fr0 IM 0
  have R0 : RepM (up2 IM 0 0 0) a := R.eq (fun b i hb => k0 _ _ (by omega))
  unfold M_search M_within
  refine ie (nI_pos (by omega)) (ie (nI_nlt (a := 5000) (by omega) (by omega)) (ie (by decide) (M_ato W R0 (fun _ => ie (by decide) ?_) (fun q => absurd h q))))
  unfold M_search_b29
  refine M_right_y (up00 _ _) (ie (by decide) (views_k W h R0 (fun I6 f6 V => ⟨8193, ?_⟩)))
  have key : ∀ d i I, i + d = 8192 → Fr (fun b _ => b = 24) I6 I → (∀ k, k < i → I 24 k = -1) → M_search_l44 (nI lim) Q (d + 1) I (nI i) := by
    intro d
    induction d with
    | zero =>
      intro i I hi f hm
      rw [M_search_l44, show (8192 : Int32) = nI 8192 from rfl]
      refine it (nI_le (by omega) (by omega)) ?_
      have f2 : Fr smP I6 (up2 I 0 49 0) := (f.mono (fun b i hb => by unfold smP; omega)).up (by unfold smP; omega)
      have fa : ∀ x k, x ≠ 17 → ¬ (24 ≤ x ∧ x ≤ 27) → ¬ (x = 0 ∧ (k = 0 ∨ k = 49)) → (up2 I 0 49 0) x k = IM x k := fun x k h1 h2 h3 => by rw [f2 _ _ (by unfold smP; omega), f6 _ _ (by omega)]; exact k0 _ _ (by omega)
      have R2 : RepM (up2 I 0 49 0) a := R.eq (fun b i hb => fa _ _ (by omega) (by omega) (by omega))
      have V2 : vws a (up2 I 0 49 0) := fun r hr w hw => (f2 _ _ (by unfold smP; omega)).trans (V r hr w hw)
      have z2 : ∀ c, c < 8192 → (up2 I 0 49 0) 24 c = stv (z0 c) := fun c hc => by rw [up2_get, if_neg (by omega)]; exact hm c (by omega)
      obtain ⟨g1, g2, g3, g4⟩ := rnr_le (a := a) (st := z0) (aq a ^ an a) 0
      have hend := l76_k (lim := lim) (Q := Q) W h R2 V2 hl (2 * lim + 1) (sr0 a) (up2 I 0 49 0) sr0_ok Fr.rf ⟨z2, up2_same _ _ _ _, trivial⟩ (fun I' f' S' => hQ I' (fun x k hn => ?_) ?_ S'.2.1 (R2.eq (fun b i hb => f' _ _ (by unfold smP; omega))) S')
      · exact scan_k (st := z0) W h R2 V2 z2 (fun _ => Nat.zero_le _) (R1 := rnr a z0 (aq a ^ an a) 0) (by omega) hend (rnr a z0 (aq a ^ an a) 0) 0 (by omega) (fun r9 h1 h2 => g4 r9 h1 h2)
      · rw [f' _ _ (by unfold smP; omega)]; exact fa _ _ (by omega) (by omega) (by omega)
      · rw [f' _ _ (by unfold smP; omega), f2 _ _ (by unfold smP; omega), f6 _ _ (by omega)]; exact up00 _ _
    | succ d ih =>
      intro i I hi f hm
      rw [M_search_l44, show (8192 : Int32) = nI 8192 from rfl, nx_nI (by omega), nI_1]
      refine ie (nI_ge (by omega) (by omega)) ⟨vin (by omega) (by omega), ih (i + 1) _ (by omega) (f.up rfl) (fun k hk => ?_)⟩
      rw [up2_get]
      by_cases e : k = i
      · rw [if_pos ⟨rfl, e⟩]
      · rw [if_neg (by omega)]; exact hm k (by omega)
  exact key 8192 0 I6 (by omega) Fr.rf (fun k hk => by omega)
theorem M_search_n {IM : HI} {a : AN} {x : Int32} (W : WF a) (R : RepM IM a) (hn : (∃ lim, lim ≤ 5000 ∧ x = nI lim ∧ ¬ ato a) ∨ (x < 0 ∨ (¬ x < 0 ∧ nI 5000 < x))) {Q : Int32 → HI → Prop} (hQ : Q 0 (up2 (up2 IM 0 0 0) 0 0 1)) : M_search IM x Q := by
  have R0 : RepM (up2 IM 0 0 0) a := R.eq (fun b i hb => Fr0 IM 0 _ _ (by omega))
  have no : M_search_b28 (up2 IM 0 0 0) x Q := by
    unfold M_search_b28 M_search_b29
    exact M_right_n (up00 _ _) (it rfl hQ)
  unfold M_search M_within
  rcases hn with ⟨lim, hl, rfl, ha⟩ | hx | ⟨h0, hx⟩
  · exact ie (nI_pos (by omega)) (ie (nI_nlt (a := 5000) (by omega) (by omega)) (ie (by decide) (M_ato W R0 (fun q => absurd q ha) (fun _ => it rfl no))))
  · exact it hx (it rfl no)
  · exact ie h0 (it hx (it rfl no))
theorem srs_ok {a : AN} {lim : Nat} (W : WF a) : ∀ m s, (∀ c, s.1 c ≤ aq a) → ∀ c, (srs a lim m s).2.1 c ≤ aq a
  | 0, _, h, c => h c
  | m + 1, (st, sk, row, frm, made), h, c => by
    rw [srs]
    dsimp only
    by_cases hr : aq a ^ an a ≤ row
    · rw [if_pos hr]; exact h c
    · rw [if_neg hr]
      cases e : uns a st row (an a - frm) frm with
      | none =>
        cases sk with
        | nil => exact h c
        | cons p sk =>
          obtain ⟨r, w⟩ := p
          refine srs_ok W m _ (fun c => ?_) c
          dsimp only; unfold upn; split
          · exact Nat.zero_le _
          · exact h c
      | some w =>
        dsimp only
        by_cases hm : lim ≤ made
        · rw [if_pos hm]; exact h c
        · rw [if_neg hm]
          refine srs_ok W m _ (fun c => ?_) c
          dsimp only; unfold upn; split
          · have := hat_lt W row w; omega
          · exact h c
theorem st_search {ro : Nat} {x1 : Int32} {I : HI} {J : HJ} {T F : HR} {L : HL} {IM : HI} {JM : HJ} (hI : Inv ro (I, J, T, F, L) IM JM) : St_search x1 I J T F L ro IM JM (Inv ro) := by
  obtain ⟨own, h, a, B⟩ := Inv_el hI
  have B0 := B
  obtain ⟨W, R, N, C, b5, b6, b7⟩ := B
  have hro := b7.1.2.2.2.1
  have o56 := b7.1.1
  have nz := nz_own b7.1
  have n8 := W.2.1
  unfold St_search L_search H_search H_search_b11
  rcases xcase x1 (n := 5000) (by omega) with ⟨lim, hl, rfl⟩ | hx
  · refine ie (nI_pos (by omega)) (it (nI_le (b := 5000) hl (by omega)) (H_ato W N (fun ha => ?_) (fun hn => ⟨hro, M_search_n W R (Or.inl ⟨lim, hl, rfl, hn⟩) (fin_no B0 (Fr01 IM) (up00' _))⟩)))
    refine Se_seek_k W ha N hl (fun I3 f3 S3 => ?_)
    have N3 : CN I3 1 a := N.eq (fun j i hj => f3 _ _ (by unfold seP; omega))
    have C3 : CT I3 T F L own 1 a := C.fr (fun b i hb => f3 _ _ (by have := nz b; unfold seP; omega)) (fun _ _ => rfl) n8 Ext.rf
    have sl : ∀ c, (srR a lim).2.1 c ≤ aq a := srs_ok W _ _ (fun _ => Nat.zero_le _)
    have e35 := S3.2.1
    refine ic (fun hc => ?_) (fun hc => ?_)
    · refine Se_settle_k W N3 C3 o56 (fun w hw => (ha w hw).2) S3.1 sl (fun I5 T6 f5 ft N5 C5 => ?_)
      unfold Led_spoil
      refine ⟨hro, M_search_y W ha R hl (fun IM1 fm1 z0' e49 R1 S1 => ?_)⟩
      unfold FinM
      rw [if_pos hc]
      refine l318_k W ha R1 S1.1 sl (fun IM' fm RM' => fin_ok2 (B0.gen (I' := up2 I5 26 1 0) (T' := T6) (IM' := up2 IM' 0 40 0) (a' := aAll a (srt (srR a lim).2.1) (an a)) ?_ (RM'.eq (fun b i hb => by rw [up2_get, if_neg (by omega)])) (N5.eq (fun j i hj => by rw [up2_get, if_neg (by omega)])) (C5.fr (fun b i hb => by have := nz b; rw [up2_get, if_neg (by omega)]) (fun _ _ => rfl) n8 Ext.rf) (Or.inl (up2_same _ _ _ _)) (Or.inl (up2_same _ _ _ _)) ?_ ?_ ?_ ?_ ?_ ?_ ?_ ?_ ?_ ?_) ?_ hc)
      · exact aAll_WF W (fun w hw => (ha w hw).2) (fun w _ v _ => by have := sl (1024 * w + v); unfold srt; omega) _ (Nat.le_refl _)
      all_goals have g : ∀ b i, ¬ (1 ≤ b ∧ b ≤ 9) → ¬ seP b i → ¬ (b = 26 ∧ i = 1) → (up2 I5 26 1 0) b i = I b i := fun b i h1 h2 h3 => by rw [up2_get, if_neg h3, f5 _ _ (by unfold nP; omega)]; exact f3 _ _ h2
      all_goals have gm : ∀ b i, ¬ (b = 4 ∨ b = 5 ∨ b = 17 ∨ (24 ≤ b ∧ b ≤ 27)) → ¬ (b = 0 ∧ (i = 0 ∨ i = 40 ∨ i = 49)) → (up2 IM' 0 40 0) b i = IM b i := fun b i h1 h2 => by rw [up2_get, if_neg (by omega), fm _ _ (by omega)]; exact fm1 _ _ (by omega)
      · intro i hi; rw [g _ _ (by omega) (by unfold seP; omega) (by omega)]; exact b7.2.2.1 i hi
      · exact b7.2.2.2.1.eq (fun b i hb => g _ _ (by omega) (by unfold seP; omega) (by omega)) (fun b i hb => gm _ _ (by omega) (by omega))
      · exact b7.2.2.2.2.1.eq (fun b i hb => g _ _ (by omega) (by unfold seP; omega) (by omega)) (fun b i hb => gm _ _ (by omega) (by omega))
      · rw [g _ _ (by omega) (by unfold seP; omega) (by omega), gm _ _ (by omega) (by omega)]; exact b7.2.2.2.2.2.1
      · rw [up2_get, if_neg (by omega), f5 _ _ (by unfold nP; omega), e35, up2_get, if_neg (by omega), fm _ _ (by omega), e49]
      · exact b7.2.2.2.2.2.2.2.1.eq (fun b i hb => g _ _ (by omega) (by unfold seP; omega) (by omega)) (fun b i hb => gm _ _ (by omega) (by omega))
      · exact b7.2.2.2.2.2.2.2.2.1.eq (fun b i hb => g _ _ (by omega) (by unfold seP; omega) (by omega)) (fun b i hb => gm _ _ (by omega) (by omega))
      · intro b i hb
        have := nz b (by omega)
        exact g _ _ (by omega) (by unfold seP; omega) (by omega)
      · intro b i hb
        refine ft _ _ ?_
        rcases hb with hb | hb
        · omega
        · have := nz b (by omega); omega
      · intro b i hb; exact gm _ _ (by omega) (by omega)
      · rw [up2_get, if_neg (by omega), fm _ _ (by omega)]; exact z0'
    · refine ⟨hro, M_search_y W ha R hl (fun IM1 fm1 z0' e49 R1 S1 => ?_)⟩
      unfold FinM
      rw [if_neg hc]
      have g : ∀ b i, ¬ seP b i → I3 b i = I b i := fun b i h2 => f3 _ _ h2
      refine fin_ok2 (B0.gen (I' := I3) (T' := T) (IM' := IM1) (a' := a) W R1 N3 C3 (b5.eq (fun b i hb => fm1 _ _ (by omega))) (b6.eq (fun b i hb => g _ _ (by unfold seP; omega))) (fun i hi => by rw [g _ _ (by unfold seP; omega)]; exact b7.2.2.1 i hi) (b7.2.2.2.1.eq (fun b i hb => g _ _ (by unfold seP; omega)) (fun b i hb => fm1 _ _ (by omega))) (b7.2.2.2.2.1.eq (fun b i hb => g _ _ (by unfold seP; omega)) (fun b i hb => fm1 _ _ (by omega))) (by rw [g _ _ (by unfold seP; omega), fm1 _ _ (by omega)]; exact b7.2.2.2.2.2.1) (by rw [e35, e49]) (b7.2.2.2.2.2.2.2.1.eq (fun b i hb => g _ _ (by unfold seP; omega)) (fun b i hb => fm1 _ _ (by omega))) (b7.2.2.2.2.2.2.2.2.1.eq (fun b i hb => g _ _ (by unfold seP; omega)) (fun b i hb => fm1 _ _ (by omega))) (fun b i hb => g _ _ (by have := nz b (by omega); unfold seP; omega)) (fun _ _ _ => rfl) (fun b i hb => fm1 _ _ (by omega))) z0' rfl
  · have h9 := fun {P : Int32 → Prop} => M_search_n (x := x1) W R (Or.inr hx) (Q := fun rb IM2 => M_thrown IM2 fun rt => rt = 1 ∧ ((1 : Int32) = 0 → P rb) ∧ Inv ro (I, J, T, F, L) IM2 JM) (fin_no B0 (Fr01 IM) (up00' _))
    rcases hx with h0 | ⟨h0, h1⟩
    · exact it h0 ⟨hro, h9⟩
    · exact ie h0 (ie (nle_of_lt h1) ⟨hro, h9⟩)
