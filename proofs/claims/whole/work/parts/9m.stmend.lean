/-! mend -/
def mdn (h : Nat → Nat) (lw k : Nat) : Nat → AN → Nat → AN × Nat
  | 0, a, c => (a, c)
  | d + 1, a, c => match (bW a h lw k (an a)).2 with
    | none => (a, c)
    | some p => mdn h lw k d (aMd a p) (c + 1)
/-- the same number of views, of wearers and colours, another table -/
def smv (a b : AN) : Prop := an b = an a ∧ aq b = aq a ∧ bsv b (an b) = bsv a (an a)
theorem aMd_sm {a : AN} {p : Nat × Nat × Nat} (h0 : akd a p.1 = 0) : smv a (aMd a p) := by
  refine ⟨rfl, rfl, ?_⟩
  refine cum_cong _ (fun j hj x => ?_)
  have e : akd (aMd a p) j = akd a j := by
    show upn (akd a) p.1 0 j = akd a j
    unfold upn; split
    · rename_i q; rw [q, h0]
    · rfl
  rw [e]; rfl
theorem aMd_WF {a : AN} {p : Nat × Nat × Nat} (W : WF a) (hw : p.1 < an a) (h0 : akd a p.1 = 0) (hg : p.2.2 ≤ aq a) : WF (aMd a p) := by
  refine aTab_WF W (W.k1 _ hw h0) (fun v hv => ?_)
  unfold upn; split
  · exact hg
  · exact (W.2.2.2.2.2 _ hw).2.2.2.2 h0 v hv
theorem mend_c {own h : Nat → Nat} {lw k most : Nat} {T F : HR} {L : HL} {I0 : HI} (o56 : ∀ x, x < 56 → own x = 0) (hm : most ≤ 20) (hH : ∀ c, c < 4 → I0 24 c = nI (h c) ∧ h c ≤ 9) (e4 : I0 23 1 = nI lw) (e5 : I0 23 2 = nI k) (l3 : lw ≤ 3) (k8 : k ≤ 8) {Q : Int32 → HI → Prop} {Xc : HI → Prop} : ∀ d c a I, c + d = most → WF a → CN I 1 a → CT I T F L own 1 a → bsv a (an a) ≤ 256 → Fr (fun b i => mdP own b i ∨ b = 8) I0 I → (∀ I', Fr (fun b i => mdP own b i ∨ b = 8) I0 I' → WF (mdn h lw k d a c).1 → CN I' 1 (mdn h lw k d a c).1 → CT I' T F L own 1 (mdn h lw k d a c).1 → Q (nI (mdn h lw k d a c).2) (up2 I' 26 1 0)) → H_mend_l51 T F L (nI most) Q Xc (d + 1) I (nI c) := by
  intro d
  induction d with
  | zero =>
    intro c a I hc W N C b256 f hQ
    rw [H_mend_l51]
    unfold Led_spoil
    exact it (nI_le (by omega) (by omega)) (hQ I f W N C)
  | succ d ih =>
    intro c a I hc W N C b256 f hQ
    have n8 := W.2.1
    have q4 := W.2.2.2.1
    have lo : ∀ b i, b < 49 → b ≠ 25 → b ≠ 8 → I b i = I0 b i := fun b i h1 h2 h3 => f b i (by have := o56 b (by omega); unfold mdP; omega)
    rw [H_mend_l51]
    refine ie (nI_ge (by omega) (by omega)) (mendOne_k W N C o56 b256 (fun c hc => ⟨(lo _ _ (by omega) (by omega) (by omega)).trans (hH c hc).1, (hH c hc).2⟩) ((lo _ _ (by omega) (by omega) (by omega)).trans e4) ((lo _ _ (by omega) (by omega) (by omega)).trans e5) l3 k8 (fun e I6 f6 => ?_) (fun p e I6 f6 => ?_))
    · rw [mdn, e] at hQ
      unfold Led_spoil
      refine it rfl (hQ I6 (f.tr (f6.mono (fun b i hb => Or.inl hb))) W (N.eq (fun j i hj => f6 _ _ (by have := o56 (1 + j) (by omega); unfold mdP; omega))) (C.fr (fun b i hb => f6 _ _ (by have := o56 b; unfold mdP; omega)) (fun _ _ => rfl) n8 Ext.rf))
    · rw [mdn, e] at hQ
      obtain ⟨p1, p2, p3, p4, p5⟩ := (bW_ok (a := a) (h := h) (lw := lw) (k := k) (an a) (Nat.le_refl _)).2.2 p e
      have v1 := W.k1 p.1 p2 p3
      have N6 : CN I6 1 a := N.eq (fun j i hj => f6 _ _ (by have := o56 (1 + j) (by omega); unfold mdP; omega))
      have C6 : CT I6 T F L own 1 a := C.fr (fun b i hb => f6 _ _ (by have := o56 b; unfold mdP; omega)) (fun _ _ => rfl) n8 Ext.rf
      have f8 : Fr (fun b i => b = 1 + 7 ∧ 1024 * p.1 ≤ i ∧ i < 1024 * p.1 + 1024) I6 (up2 I6 8 (1024 * p.1 + p.2.1) (nI p.2.2)) := Fr.rf.up (by omega)
      have hT : T (1 + 6) p.1 = none := by
        rcases C.2.2 p.1 p2 with g | ⟨g, _⟩
        · exact g.2
        · omega
      have N7 : CN (up2 I6 8 (1024 * p.1 + p.2.1) (nI p.2.2)) 1 (aMd a p) := CN_tab W N6 p2 f8 (fun i hi => by
        rw [up2_get]; split
        · exact (byt_k _ (by omega)).1
        · exact N6.2.2.2.2.2.2.2.2.1 i hi) (fun v hv => by
        unfold upn
        show up2 I6 8 (1024 * p.1 + p.2.1) (nI p.2.2) 8 (1024 * p.1 + v) = _
        rw [up2_get]
        by_cases ev : v = p.2.1
        · rw [if_pos ⟨rfl, by omega⟩, if_pos ev]
        · rw [if_neg (by omega), if_neg ev]; exact N6.2.2.2.2.2.2.2.2.2 p.1 p2 p3 v hv)
      have C7 : CT (up2 I6 8 (1024 * p.1 + p.2.1) (nI p.2.2)) T F L own 1 (aMd a p) := CT_tab W C6 (fun b i hb => f8 _ _ (by have := o56 b; omega)) p2 hT (fun _ _ => rfl)
      rw [nI_1]
      refine ie (by decide) (ih (c + 1) (aMd a p) _ (by omega) (aMd_WF W p2 p3 p5) N7 C7 (by rw [(aMd_sm p3).2.2]; exact b256) ((f.tr (f6.mono (fun b i hb => Or.inl hb))).up (Or.inr rfl)) hQ)
theorem mend_m {h : Nat → Nat} {lw k most : Nat} {I0 : HI} (hm : most ≤ 20) (hH : ∀ c, c < 4 → I0 1 c = nI (h c) ∧ h c ≤ 9) (e4 : I0 0 4 = nI lw) (e5 : I0 0 5 = nI k) (l3 : lw ≤ 3) (k8 : k ≤ 8) {Q : Int32 → HI → Prop} : ∀ d c a I, c + d = most → WF a → RepM I a → WorI a I → bsv a (an a) ≤ 256 → Fr (fun b i => b = 5 ∨ (17 ≤ b ∧ b ≤ 22) ∨ b = 37 ∨ b = 0 ∧ (i = 40 ∨ 62 ≤ i ∧ i ≤ 65)) I0 I → (∀ I', Fr (fun b i => b = 5 ∨ (17 ≤ b ∧ b ≤ 22) ∨ b = 37 ∨ b = 0 ∧ (i = 40 ∨ 62 ≤ i ∧ i ≤ 65)) I0 I' → RepM I' (mdn h lw k d a c).1 → WorI (mdn h lw k d a c).1 I' → Q (nI (mdn h lw k d a c).2) I') → M_mend_l85 (nI most) Q (d + 2) I (nI c) 1 := by
  intro d
  induction d with
  | zero =>
    intro c a I hc W R hw b256 f hQ
    rw [M_mend_l85]
    exact ie (by decide) (it (nI_le (by omega) (by omega)) (hQ I f R hw))
  | succ d ih =>
    intro c a I hc W R hw b256 f hQ
    have n8 := W.2.1
    have q4 := W.2.2.2.1
    have lo : ∀ b i, b ≠ 5 → ¬ (17 ≤ b ∧ b ≤ 22) → b ≠ 37 → ¬ (b = 0 ∧ (i = 40 ∨ 62 ≤ i ∧ i ≤ 65)) → I b i = I0 b i := fun b i h1 h2 h3 h4 => f b i (by omega)
    rw [M_mend_l85]
    refine ie (by decide) (ie (nI_ge (by omega) (by omega)) (M_worksAll_k W R hw (fun I6 f6 R6 h40 hd => ⟨an a + 1, ?_⟩)))
    have f62 : Fr (fun b i => b = 0 ∧ i = 62) I6 (up2 I6 0 62 0) := Fr.rf.up ⟨rfl, rfl⟩
    have fa : Fr (fun b i => b = 5 ∨ (17 ≤ b ∧ b ≤ 22) ∨ b = 37 ∨ b = 0 ∧ (i = 40 ∨ 62 ≤ i ∧ i ≤ 65)) I0 (up2 I6 0 62 0) := (f.tr (f6.mono (fun b i hb => by unfold waP at hb; omega))).tr (f62.mono (fun b i hb => by omega))
    have M0 : MwI (up2 I6 0 62 0) a h lw k := ⟨W, R6.eq (fun b i hb => f62 _ _ (by omega)), fun r hr => by
      obtain ⟨d1, d2, d3⟩ := hd r hr
      exact ⟨(f62 _ _ (by omega)).trans d1, (f62 _ _ (by omega)).trans d2, fun w hw => (f62 _ _ (by omega)).trans (d3 w hw)⟩, fun c hc => ⟨(fa _ _ (by omega)).trans (hH c hc).1, (hH c hc).2⟩, (fa _ _ (by omega)).trans e4, (fa _ _ (by omega)).trans e5, l3, k8⟩
    have l107 : ∀ e w J, w + e = an a → Fr mwP (up2 I6 0 62 0) J → bsI J (bW a h lw k w) → M_mend_l107 (nI most) (nI c) (fun I' x3' x4' => M_mend_l85 (nI most) Q (d + 2) I' x3' x4') Q (e + 1) J (nI w) := by
      intro e
      induction e with
      | zero =>
        intro w J hw9 fJ sJ
        have : w = an a := by omega
        subst this
        have MJ := M0.fr fJ
        obtain ⟨-, RJ, hdJ, -, -, -, -, -⟩ := MJ
        have gJ : Fr (fun b i => b = 5 ∨ (17 ≤ b ∧ b ≤ 22) ∨ b = 37 ∨ b = 0 ∧ (i = 40 ∨ 62 ≤ i ∧ i ≤ 65)) I0 J := fa.tr (fJ.mono (fun b i hb => by unfold mwP at hb; omega))
        have ok := bW_ok (a := a) (h := h) (lw := lw) (k := k) (an a) (Nat.le_refl _)
        have j40 : J 0 40 = 1 := by rw [fJ _ _ (by unfold mwP; omega), f62 _ _ (by omega)]; exact h40
        rw [M_mend_l107, RJ.1.1, sJ.1]
        refine it (nI_le (Nat.le_refl _) (by omega)) ?_
        unfold M_mend_b150
        cases e : (bW a h lw k (an a)).2 with
        | none =>
          rw [mdn, e] at hQ
          rw [ok.2.1 e]
          refine it (by decide) (it rfl ?_)
          show M_mend_l85 (nI most) Q (d + 1 + 1) J (nI c) 0
          rw [M_mend_l85]
          exact it rfl (hQ J gJ RJ (Or.inr ⟨j40, hdJ⟩))
        | some p =>
          rw [mdn, e] at hQ
          obtain ⟨p1, p2, p3, p4, p5⟩ := ok.2.2 p e
          obtain ⟨s1, s2, s3⟩ := sJ.2 p e
          have v1 := W.k1 p.1 p2 p3
          rw [s1, s2, s3, nlit1024, nM, nI_add, nx_nI (by omega), nI_1]
          refine ie (nle_of_lt p1) (ie (by decide) ⟨vin (by omega) (by omega), ?_⟩)
          have f5 : Fr (fun b i => b = 4 ∧ i = p.1 ∨ b = 5 ∧ 1024 * p.1 ≤ i ∧ i < 1024 * p.1 + 1024) J (up2 J 5 (1024 * p.1 + p.2.1) (nI p.2.2)) := Fr.rf.up (by omega)
          have R7 : RepM (up2 J 5 (1024 * p.1 + p.2.1) (nI p.2.2)) (aMd a p) := RepM_tab W RJ p2 f5 (by rw [up2_get, if_neg (by omega), (RJ.2.2 p.1 p2).1, p3]; rfl) (fun v hv => by
            unfold upn
            rw [up2_get]
            by_cases ev : v = p.2.1
            · rw [if_pos ⟨rfl, by omega⟩, if_pos ev]
            · rw [if_neg (by omega), if_neg ev]; exact (RJ.2.2 p.1 p2).2.1 p3 v hv)
          exact ih (c + 1) (aMd a p) _ (by omega) (aMd_WF W p2 p3 p5) (R7.eq (fun b i hb => by rw [up2_get, if_neg (by omega)])) (Or.inl (up2_same _ _ _ _)) (by rw [(aMd_sm p3).2.2]; exact b256) ((gJ.up (by omega)).up (by omega)) hQ
      | succ e ihe =>
        intro w J hw9 fJ sJ
        have hw' : w < an a := by omega
        have MJ := M0.fr fJ
        have RJ := MJ.2.1
        have kd := W.kd hw'
        have eW : bW a h lw k (w + 1) = if akd a w = 0 then bV a h lw k w (bW a h lw k w) (avw a w) else bW a h lw k w := rfl
        rw [M_mend_l107, RJ.1.1, nx_nI (by omega), (RJ.2.2 w hw').1]
        simp only [nI_1]
        refine ie (nI_ge (by omega) (by omega)) ⟨vin (by omega) (by omega), ic (fun hc => ?_) (fun hc => ?_)⟩
        · rw [nlit0, nI_eq (by omega) (by omega)] at hc
          have hb := Nat.le_trans (bsv_mono hw' hc) b256
          refine weighs_k MJ hw' hc (by omega) sJ (fun K fK sK => ihe (w + 1) K (by omega) (fJ.tr fK) (by rw [eW, if_pos hc]; exact sK))
        · rw [nlit0, nI_eq (by omega) (by omega)] at hc
          exact ihe (w + 1) J (by omega) fJ (by rw [eW, if_neg hc]; exact sJ)
    exact l107 (an a) 0 _ (by omega) Fr.rf ⟨up2_same _ _ _ _, fun p q => by cases q⟩
theorem views_c {I : HI} {T F : HR} {L : HL} {own : Nat → Nat} {a : AN} (W : WF a) (N : CN I 1 a) (C : CT I T F L own 1 a) {Q : Int32 → Prop} (hQ : Q (nI (bsv a (an a)))) : Net_viewsInTables I T 1 Q := by
  have n8 := W.2.1
  have key : ∀ d w, w + d = an a → Net_viewsInTables_l4 I T 1 Q (d + 1) (nI (bsv a w)) (nI w) := by
    intro d
    induction d with
    | zero =>
      intro w hw
      have : w = an a := by omega
      subst this
      rw [Net_viewsInTables_l4, N.1]
      exact it (nI_le (Nat.le_refl _) (by omega)) hQ
    | succ d ih =>
      intro w hw
      have hw' : w < an a := by omega
      have ih := ih (w + 1) (by omega)
      rw [bsv_s] at ih
      rw [Net_viewsInTables_l4, N.1]
      simp only [nI_1]
      refine ie (nI_ge (by omega) (by omega)) (Net_has_k W N C hw' (fun h0 => ie (by decide) ⟨vin (by omega) (by omega), ?_⟩) (fun h0 => it rfl ?_))
      · rw [if_pos h0] at ih
        rw [nx_nI (by omega), N.2.2.2.2.2.2.1 w hw', show vwi (avw a w) = nI (avw a w) from if_pos (W.k1 w hw' h0), nI_add]
        exact ih
      · rw [if_neg h0] at ih
        rw [nlit0, nI_add]
        exact ih
  exact ⟨an a + 1, key (an a) 0 (by omega)⟩
theorem bsv_le {a : AN} (W : WF a) : ∀ w, w ≤ an a → bsv a w ≤ 1024 * w
  | 0, _ => Nat.le_refl _
  | w + 1, h => by
    have ih := bsv_le W w (by omega)
    rw [bsv_s]
    split
    · rename_i h0; have := W.k1 w (by omega) h0; omega
    · omega
theorem st_mend {ro : Nat} {x1 : Int32} {I : HI} {J : HJ} {T F : HR} {L : HL} {IM : HI} {JM : HJ} (hI : Inv ro (I, J, T, F, L) IM JM) : St_mend x1 I J T F L ro IM JM (Inv ro) := by
  obtain ⟨own, h, a, B⟩ := Inv_el hI
  have B0 := B
  obtain ⟨W, R, N, C, b5, b6, b7⟩ := B
  have hro := b7.1.2.2.2.1
  have o56 := b7.1.1
  have nz := nz_own b7.1
  have n8 := W.2.1
  have r5 := W.2.2.2.2.1
  have k0 := Fr0 IM 0
  have R0 : RepM (up2 IM 0 0 0) a := R.eq (fun b i hb => k0 _ _ (by omega))
  obtain ⟨j1, lw, k9, j2, j3, j4, j5, j6, j7⟩ := id b7.2.2.2.1
  have bl := bsv_le W (an a) (Nat.le_refl _)
  unfold St_mend L_mend H_mend H_mend_b10
  rcases xcase x1 (n := 20) (by omega) with ⟨most, hm, rfl⟩ | hx
  · refine ie (nI_pos (by omega)) (it (nI_le (b := 20) hm (by omega)) ?_)
    -- the reference's way to its loop
    have mkey : ∀ {Q : Int32 → HI → Prop}, (bsv a (an a) ≤ 256 → aq a ^ an a ≤ 256 → M_mend_l85 (nI most) Q (most + 2) (up2 IM 0 0 0) (nI 0) 1) → (¬ (bsv a (an a) ≤ 256 ∧ aq a ^ an a ≤ 256) → Q (-1) (up2 IM 0 0 0)) → M_mend IM (nI most) Q := by
      intro Q hy hno
      unfold M_mend M_within
      refine ie (nI_pos (by omega)) (ie (nI_nlt (a := 20) (by omega) (by omega)) (M_right_y (up00 _ _) (ie (by decide) ⟨an a + 1, ?_⟩)))
      have key : ∀ d w, w + d = an a → M_mend_l26 (up2 IM 0 0 0) (nI most) Q (d + 1) (nI (bsv a w)) (nI w) := by
        intro d
        induction d with
        | zero =>
          intro w hw
          have : w = an a := by omega
          subst this
          rw [M_mend_l26, R0.1.1, R0.2.1]
          refine it (nI_le (Nat.le_refl _) (by omega)) ?_
          rw [show (256 : Int32) = nI 256 from rfl]
          refine ic (fun hc => ?_) (fun hc => ic (fun hc2 => ?_) (fun hc2 => ?_))
          · rw [nI_ltI (by omega) (by omega)] at hc
            exact hno (fun q => by omega)
          · rw [nI_ltI (by omega) (by omega)] at hc
            rw [nI_leI (by omega) (by omega)] at hc2
            exact ⟨_, hy (by omega) hc2⟩
          · rw [nI_leI (by omega) (by omega)] at hc2
            exact hno (fun q => by omega)
        | succ d ih =>
          intro w hw
          have hw' : w < an a := by omega
          have ih := ih (w + 1) (by omega)
          rw [bsv_s] at ih
          have kd := W.kd hw'
          rw [M_mend_l26, R0.1.1, nx_nI (by omega), (R0.2.2 w hw').1]
          simp only [nI_1]
          refine ie (nI_ge (by omega) (by omega)) ⟨vin (by omega) (by omega), ic (fun hc => ?_) (fun hc => ?_)⟩
          · rw [nlit0, nI_eq (by omega) (by omega)] at hc
            rw [if_pos hc] at ih
            have v1 : vw (an a) (aq a) (alk a) (ard a) w ≤ 1024 := W.k1 w hw' hc
            refine M_viewsOf_k R0.1 hw' ?_
            unfold vwc
            rw [if_pos v1, nI_add]
            exact ih
          · rw [nlit0, nI_eq (by omega) (by omega)] at hc
            rw [if_neg hc] at ih
            rw [nlit0, nI_add]
            exact ih
      exact key (an a) 0 (by omega)
    have no : ¬ (bsv a (an a) ≤ 256 ∧ aq a ^ an a ≤ 256) → (ro, 4, 1) ∈ (I, up2 J ro 0 (Int32.toInt64 (-1)), T, F, L).2.2.2.2 ∧ M_mend IM (nI most) (fun rb IM2 => M_thrown IM2 fun rt => rt = 0 ∧ ((0 : Int32) = 0 → (I, up2 J ro 0 (Int32.toInt64 (-1)), T, F, L).2.1 ro 0 = Int32.toInt64 rb) ∧ Inv ro (I, up2 J ro 0 (Int32.toInt64 (-1)), T, F, L) IM2 JM) := fun hn => ⟨hro, mkey (fun h1 h2 => absurd ⟨h1, h2⟩ hn) (fun _ => fin_ok B0 k0 (up00 _ _) rfl)⟩
    rw [N.2.2.1]
    by_cases hr : aq a ^ an a ≤ 256
    · refine ie (nI_nlt (a := 256) hr (by omega)) (views_c W N C ?_)
      by_cases hb : bsv a (an a) ≤ 256
      · refine it (nI_le (b := 256) hb (by omega)) ⟨most + 1, mend_c (h := h) (lw := lw) (k := k9) o56 hm (fun c hc => ⟨(j1 c hc).1, (j1 c hc).2.2⟩) j2 j5 j4 j7 most 0 a I (by omega) W N C hb Fr.rf (fun I' f' W' N' C' => ⟨hro, mkey (fun _ _ => ?_) (fun q => absurd ⟨hb, hr⟩ q)⟩)⟩
        refine mend_m (h := h) (lw := lw) (k := k9) (I0 := up2 IM 0 0 0) hm (fun c hc => ⟨(k0 _ _ (by omega)).trans (j1 c hc).2.1, (j1 c hc).2.2⟩) ((k0 _ _ (by omega)).trans j3) ((k0 _ _ (by omega)).trans j6) j4 j7 most 0 a (up2 IM 0 0 0) (by omega) W R0 (b5.eq (fun b i hb => k0 _ _ (by omega))) hb Fr.rf (fun IM' fm RM' hw' => fin_ok2 (B0.gen (I' := up2 I' 26 1 0) (T' := T) (IM' := IM') (a' := (mdn h lw k9 most a 0).1) W' RM' (N'.eq (fun j i hj => by rw [up2_get, if_neg (by omega)])) (C'.fr (fun b i hb => by have := nz b; rw [up2_get, if_neg (by omega)]) (fun _ _ => rfl) W'.2.1 Ext.rf) hw' (Or.inl (up2_same _ _ _ _)) ?_ ?_ ?_ ?_ ?_ ?_ ?_ ?_ (fun _ _ _ => rfl) ?_) ?_ rfl)
        all_goals have g : ∀ b i, b < 49 → b ≠ 8 → b ≠ 25 → b ≠ 26 → (up2 I' 26 1 0) b i = I b i := fun b i h1 h2 h3 h4 => by rw [up2_get, if_neg (by omega)]; exact f' _ _ (by have := o56 b (by omega); unfold mdP; omega)
        all_goals have gm' : ∀ b i, b ≠ 5 → ¬ (17 ≤ b ∧ b ≤ 22) → b ≠ 37 → ¬ (b = 0 ∧ (i = 0 ∨ i = 40 ∨ 62 ≤ i ∧ i ≤ 65)) → IM' b i = IM b i := fun b i h1 h2 h3 h4 => by rw [fm _ _ (by omega)]; exact k0 _ _ (by omega)
        · intro i hi; rw [g _ _ (by omega) (by omega) (by omega) (by omega)]; exact b7.2.2.1 i hi
        · exact b7.2.2.2.1.eq (fun b i hb => g _ _ (by omega) (by omega) (by omega) (by omega)) (fun b i hb => gm' _ _ (by omega) (by omega) (by omega) (by omega))
        · exact b7.2.2.2.2.1.eq (fun b i hb => g _ _ (by omega) (by omega) (by omega) (by omega)) (fun b i hb => gm' _ _ (by omega) (by omega) (by omega) (by omega))
        · rw [g _ _ (by omega) (by omega) (by omega) (by omega), gm' _ _ (by omega) (by omega) (by omega) (by omega)]; exact b7.2.2.2.2.2.1
        · rw [g _ _ (by omega) (by omega) (by omega) (by omega), gm' _ _ (by omega) (by omega) (by omega) (by omega)]; exact b7.2.2.2.2.2.2.1
        · exact b7.2.2.2.2.2.2.2.1.eq (fun b i hb => g _ _ (by omega) (by omega) (by omega) (by omega)) (fun b i hb => gm' _ _ (by omega) (by omega) (by omega) (by omega))
        · exact b7.2.2.2.2.2.2.2.2.1.eq (fun b i hb => g _ _ (by omega) (by omega) (by omega) (by omega)) (fun b i hb => gm' _ _ (by omega) (by omega) (by omega) (by omega))
        · intro b i hb
          have := nz b (by omega)
          rw [up2_get, if_neg (by omega)]
          exact f' _ _ (by unfold mdP; omega)
        · intro b i hb; exact gm' _ _ (by omega) (by omega) (by omega) (by omega)
        · rw [fm _ _ (by omega)]; exact up00 _ _
      · exact ie (nI_ge (a := 256) (by omega) (by omega)) (no (fun q => hb q.1))
    · exact it (nI_lt (a := 256) (by omega) (by omega)) (no (fun q => hr q.2))
  · have h9 : M_mend IM x1 (fun rb IM2 => M_thrown IM2 fun rt => rt = 1 ∧ ((1 : Int32) = 0 → (I, J, T, F, L).2.1 ro 0 = Int32.toInt64 rb) ∧ Inv ro (I, J, T, F, L) IM2 JM) := by
      unfold M_mend M_within
      rcases hx with h0 | ⟨h0, h1⟩
      · exact it h0 (M_right_n (up00 _ _) (it rfl (fin_no B0 (Fr01 IM) (up00' _))))
      · exact ie h0 (it h1 (M_right_n (up00 _ _) (it rfl (fin_no B0 (Fr01 IM) (up00' _)))))
    rcases hx with h0 | ⟨h0, h1⟩
    · exact it h0 ⟨hro, h9⟩
    · exact ie h0 (ie (nle_of_lt h1) ⟨hro, h9⟩)
