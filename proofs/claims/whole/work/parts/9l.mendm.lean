/-! mend: the reference's side -/
theorem wonIf_k {I : HI} {a : AN} {lw k r w x : Nat} (W : WF a) (R : RepM I a) (hd : done I a r) (hr : r < aq a ^ an a) (hw : w < an a) (hx : x ≤ aq a) (e4 : I 0 4 = nI lw) (e5 : I 0 5 = nI k) (l3 : lw ≤ 3) (k8 : k ≤ 8) {Q : Int32 → HI → Prop} (hQ : ∀ I', Fr (fun b _ => b = 17 ∨ b = 18 ∨ b = 19) I I' → Q (b01 (wonM a lw k r w x)) I') : M_isWonIf I (nI r) (nI w) (nI x) Q := by
  have n8 := W.2.1
  have q4 := W.2.2.2.1
  have hl : ∀ j, j < an a → hat a r j < aq a := fun j _ => hat_lt W r j
  have gle := gm_le (w := w) (x := x) W hl hx
  have r7 : ∀ j, j < an a → ard a j ≤ 7 := fun j hj => (W.2.2.2.2.2 j hj).2.2.1
  unfold M_isWonIf
  refine M_laysOut_k W R hr hd (fun J fJ h17 h18 => ?_)
  rw [nx_nI (by omega)]
  have v8 : vp_in (nI w) 8 := vin (by omega) (by omega)
  refine ⟨v8, v8, 8 - (ard a w + 1) + 1, ?_⟩
  have f1 : Fr (fun b _ => b = 17 ∨ b = 18 ∨ b = 19) I (up2 J 18 w (nI x)) := (fJ.mono (fun b i hb => by omega)).up (by omega)
  have R1 : RepM (up2 J 18 w (nI x)) a := R.eq (fun b i hb => f1 _ _ (by omega))
  rw [R1.1.2.2.2.1 w hw, nI_1]
  have r7w := r7 w hw
  have l87 : ∀ J, Fr (fun b _ => b = 17 ∨ b = 18 ∨ b = 19) I J → (∀ j, j < an a → J 17 j = nI (hat a r j)) → (∀ j, j < an a → J 18 j = nI (gm a (hat a r) w x j)) → ∀ d j, j + d = an a → M_isWonIf_l87 J Q (d + 1) (nI (msk (fun i => decide (gm a (hat a r) w x i = hat a r i)) j)) (nI (msk (fun i => decide (gm a (hat a r) w x i ≠ hat a r i ∧ gm a (hat a r) w x i ≠ aq a)) j)) (nI j) := by
    intro J f g17 g18 d
    have RJ : RepM J a := R.eq (fun b i hb => f _ _ (by omega))
    induction d with
    | zero =>
      intro j hj
      have : j = an a := by omega
      subst this
      rw [M_isWonIf_l87, RJ.1.1]
      exact it (nI_le (Nat.le_refl _) (by omega)) (M_isWon_k ((f _ _ (by omega)).trans e4) ((f _ _ (by omega)).trans e5) RJ.1.1 l3 k8 n8 (msk_lt _ _) (msk_lt _ _) ⟨zb_b _, hQ J f⟩)
    | succ d ih =>
      intro j hj
      have hj' : j < an a := by omega
      have ih := ih (j + 1) (by omega)
      rw [rts_succ a, wrs_succ] at ih
      have b1 := hl j hj'
      have b2 := gle j hj'
      rw [M_isWonIf_l87, RJ.1.1, nx_nI (by omega), g17 j hj', g18 j hj', RJ.1.2.1, nShl1 j (by omega), nOr, nOr]
      simp only [nI_1]
      have v : vp_in (nI j) 8 := vin (by omega) (by omega)
      refine ie (nI_ge (by omega) (by omega)) ⟨v, v, ic (fun hc => ?_) (fun hc => ⟨v, ic (fun hc2 => ?_) (fun hc2 => ?_)⟩)⟩
      · rw [nI_eq (by omega) (by omega)] at hc
        rw [if_pos hc, if_neg (by omega)] at ih; exact ih
      · rw [nI_eq (by omega) (by omega)] at hc hc2
        rw [if_neg hc, if_neg (by omega)] at ih; exact ih
      · rw [nI_eq (by omega) (by omega)] at hc hc2
        rw [if_neg hc, if_pos ⟨hc, hc2⟩] at ih; exact ih
  have inner : ∀ (K : HI → Int32 → Prop) ρ, ard a w < ρ → ρ ≤ 7 → (∀ J, Fr (fun b _ => b = 17 ∨ b = 18 ∨ b = 19) I J → (∀ j, j < an a → J 17 j = nI (hat a r j)) → (∀ j, j < an a → ard a j < ρ + 1 → J 18 j = nI (gm a (hat a r) w x j)) → K J (nI (ρ + 1))) → ∀ d j J, j + d = an a → Fr (fun b _ => b = 17 ∨ b = 18 ∨ b = 19) I J → (∀ j, j < an a → J 17 j = nI (hat a r j)) → (∀ i, i < an a → (ard a i < ρ ∨ ard a i = ρ ∧ i < j) → J 18 i = nI (gm a (hat a r) w x i)) → M_isWonIf_l32 (nI ρ) K Q (d + 1) J (nI j) := by
    intro K ρ hwρ hρ hK d
    induction d with
    | zero =>
      intro j J hj f g17 hs
      have RJ : RepM J a := R.eq (fun b i hb => f _ _ (by omega))
      rw [M_isWonIf_l32, RJ.1.1, nI_1]
      exact it (nI_le (by omega) (by omega)) (hK J f g17 (fun i hi hri => hs i hi (by omega)))
    | succ d ih =>
      intro j J hj f g17 hs
      have hj' : j < an a := by omega
      have RJ : RepM J a := R.eq (fun b i hb => f _ _ (by omega))
      have rj := r7 j hj'
      rw [M_isWonIf_l32, RJ.1.1, nx_nI (by omega), RJ.1.2.2.2.1 j hj']
      simp only [nI_1]
      refine ie (nI_ge (by omega) (by omega)) ⟨vin (by omega) (by omega), ic (fun hc => ?_) (fun hc => ?_)⟩
      · rw [nI_eq (by omega) (by omega)] at hc
        have M : MRow J a (hat a r) (gm a (hat a r) w x) j := ⟨RJ, g17, fun i hi hri => hs i hi (by omega)⟩
        refine M_guesses_k W M hj' hl (fun i hi _ => gle i hi) (fun J2 f2 => ⟨vin (by omega) (by omega), ?_⟩)
        rw [← gm_fix W hj' (by omega)]
        refine ih (j + 1) _ (by omega) ((f.tr (f2.mono (fun b i hb => by omega))).up (by omega)) (fun i hi => by rw [up2_get, if_neg (by omega), f2 _ _ (by omega)]; exact g17 i hi) (fun i hi hri => ?_)
        rw [up2_get]
        by_cases e : i = j
        · rw [if_pos ⟨rfl, e⟩, e]
        · rw [if_neg (by omega), f2 _ _ (by omega)]; exact hs i hi (by omega)
      · rw [nI_eq (by omega) (by omega)] at hc
        refine ih (j + 1) J (by omega) f g17 (fun i hi hri => hs i hi ?_)
        by_cases e : i = j
        · subst e; omega
        · omega
  have outer : ∀ d ρ J, ρ + d = 8 → ard a w < ρ → Fr (fun b _ => b = 17 ∨ b = 18 ∨ b = 19) I J → (∀ j, j < an a → J 17 j = nI (hat a r j)) → (∀ i, i < an a → ard a i < ρ → J 18 i = nI (gm a (hat a r) w x i)) → M_isWonIf_l22 Q (d + 1) J (nI ρ) := by
    intro d
    induction d with
    | zero =>
      intro ρ J hρ hw9 f g17 hs
      rw [M_isWonIf_l22, nlit8]
      exact it (nI_le (by omega) (by omega)) ⟨an a + 1, l87 J f g17 (fun j hj => hs j hj (by have := r7 j hj; omega)) (an a) 0 (by omega)⟩
    | succ d ih =>
      intro ρ J hρ hw9 f g17 hs
      rw [M_isWonIf_l22, nlit8]
      exact ie (nI_ge (by omega) (by omega)) ⟨an a + 1, inner _ ρ hw9 (by omega) (fun J' f' g' hs' => ih (ρ + 1) J' (by omega) (by omega) f' g' hs') (an a) 0 J (by omega) f g17 (fun i hi hri => hs i hi (by omega))⟩
  refine outer (8 - (ard a w + 1)) (ard a w + 1) _ (by omega) (by omega) f1 (fun j hj => by rw [up2_get, if_neg (by omega)]; exact h17 j hj) (fun i hi hri => ?_)
  rw [gm_lo (by omega), up2_get]
  by_cases e : i = w
  · rw [if_pos ⟨rfl, e⟩, if_pos e]
  · rw [if_neg (by omega), if_neg e]; exact h18 i hi
def mwP : Nat → Nat → Prop := fun b i => b = 17 ∨ b = 18 ∨ b = 19 ∨ b = 37 ∨ b = 0 ∧ 62 ≤ i ∧ i ≤ 65
def bsI (I : HI) (s : BS) : Prop := I 0 62 = s.1 ∧ ∀ p, s.2 = some p → I 0 63 = nI p.1 ∧ I 0 64 = nI p.2.1 ∧ I 0 65 = nI p.2.2
/-- what the reference holds while it weighs -/
def MwI (I0 : HI) (a : AN) (h : Nat → Nat) (lw k : Nat) : Prop := WF a ∧ RepM I0 a ∧ (∀ r, r < aq a ^ an a → done I0 a r) ∧ (∀ c, c < 4 → I0 1 c = nI (h c) ∧ h c ≤ 9) ∧ I0 0 4 = nI lw ∧ I0 0 5 = nI k ∧ lw ≤ 3 ∧ k ≤ 8
theorem MwI.fr {I0 I : HI} {a : AN} {h : Nat → Nat} {lw k : Nat} (M : MwI I0 a h lw k) (f : Fr mwP I0 I) : MwI I a h lw k := by
  obtain ⟨W, R, hd, hH, e4, e5, l3, k8⟩ := M
  refine ⟨W, R.eq (fun b i hb => f _ _ (by unfold mwP; omega)), fun r hr => ?_, fun c hc => ⟨(f _ _ (by unfold mwP; omega)).trans (hH c hc).1, (hH c hc).2⟩, (f _ _ (by unfold mwP; omega)).trans e4, (f _ _ (by unfold mwP; omega)).trans e5, l3, k8⟩
  obtain ⟨d1, d2, d3⟩ := hd r hr
  exact ⟨(f _ _ (by unfold mwP; omega)).trans d1, (f _ _ (by unfold mwP; omega)).trans d2, fun w hw => (f _ _ (by unfold mwP; omega)).trans (d3 w hw)⟩
theorem weighs_k {I0 : HI} {a : AN} {h : Nat → Nat} {lw k w : Nat} {s : BS} (M : MwI I0 a h lw k) (hw : w < an a) (h0 : akd a w = 0) (hv256 : avw a w ≤ 256) (hs : bsI I0 s) {Q : HI → Prop} (hQ : ∀ I, Fr mwP I0 I → bsI I (bV a h lw k w s (avw a w)) → Q I) : M_weighs I0 (nI w) Q := by
  have W := M.1
  have n8 := W.2.1
  have q2 := W.2.2.1
  have q4 := W.2.2.2.1
  have r5 := W.2.2.2.2.1
  have v1 := W.k1 w hw h0
  have v1' : vw (an a) (aq a) (alk a) (ard a) w ≤ 1024 := v1
  have ev : vw (an a) (aq a) (alk a) (ard a) w = avw a w := rfl
  unfold M_weighs
  refine M_viewsOf_k M.2.1.1 hw ?_
  unfold vwc
  rw [if_pos v1', ev]
  -- the best, cell by cell
  have l165 : ∀ I, Fr mwP I0 I → (∀ v, v < avw a w → ∀ g, g ≤ aq a → I 37 (5 * v + g) = Gs a h lw k (aq a ^ an a) w v g) → ∀ d v J, v + d = avw a w → Fr (fun b i => b = 0 ∧ 62 ≤ i ∧ i ≤ 65) I J → bsI J (bV a h lw k w s v) → M_weighs_l165 (nI w) (nI (avw a w)) Q (d + 1) J (nI v) := by
    intro I fI h37 d
    induction d with
    | zero =>
      intro v J hv fJ sJ
      have : v = avw a w := by omega
      subst this
      rw [M_weighs_l165]
      exact it (nI_le (Nat.le_refl _) (by omega)) (hQ J (fI.tr (fJ.mono (fun b i hb => by unfold mwP; omega))) sJ)
    | succ d ih =>
      intro v J hv fJ sJ
      rw [M_weighs_l165]
      refine ie (nI_ge (by omega) (by omega)) ⟨aq a + 1 + 1, ?_⟩
      have inner : ∀ e g K, g + e = aq a + 1 → Fr (fun b i => b = 0 ∧ 62 ≤ i ∧ i ≤ 65) I K → bsI K (bG a h lw k w v (bV a h lw k w s v) g) → M_weighs_l173 (nI w) (nI (avw a w)) (nI v) (fun I' x3' => M_weighs_l165 (nI w) (nI (avw a w)) Q (d + 1) I' x3') Q (e + 1) K (nI g) := by
        intro e
        induction e with
        | zero =>
          intro g K he fK sK
          have k2 : K 0 2 = nI (aq a) := by rw [fK _ _ (by omega), fI _ _ (by unfold mwP; omega)]; exact M.2.1.1.2.1
          have : g = aq a + 1 := by omega
          subst this
          rw [M_weighs_l173, k2, nI_1]
          exact it (nI_lt (by omega) (by omega)) (ih (v + 1) K (by omega) fK sK)
        | succ e ihe =>
          intro g K he fK sK
          have k2 : K 0 2 = nI (aq a) := by rw [fK _ _ (by omega), fI _ _ (by unfold mwP; omega)]; exact M.2.1.1.2.1
          have k37 : K 37 (5 * v + g) = Gs a h lw k (aq a ^ an a) w v g := by rw [fK _ _ (by omega)]; exact h37 v (by omega) g (by omega)
          have step : bG a h lw k w v (bV a h lw k w s v) (g + 1) = if (bG a h lw k w v (bV a h lw k w s v) g).1 < Gs a h lw k (aq a ^ an a) w v g then (Gs a h lw k (aq a ^ an a) w v g, some (w, v, g)) else bG a h lw k w v (bV a h lw k w s v) g := rfl
          rw [M_weighs_l173, k2, show (5 : Int32) = nI 5 from rfl, nM, nI_add, nx_nI (by omega), k37, sK.1]
          simp only [nI_1]
          have vv : vp_in (nI (5 * v + g)) 1280 := vin (by omega) (by omega)
          refine ie (nI_nlt (by omega) (by omega)) ⟨vv, ic (fun hc => ⟨vv, ?_⟩) (fun hc => ?_)⟩
          · rw [if_pos hc] at step
            refine ihe (g + 1) _ (by omega) ((((fK.up (by omega)).up (by omega)).up (by omega)).up (by omega)) ?_
            rw [step]
            refine ⟨?_, fun p hp => ?_⟩
            · rw [up2_get, if_neg (by omega), up2_get, if_neg (by omega), up2_get, if_neg (by omega), up2_same]
            · cases hp
              refine ⟨?_, ?_, ?_⟩
              · rw [up2_get, if_neg (by omega), up2_get, if_neg (by omega), up2_same]
              · rw [up2_get, if_neg (by omega), up2_same]
              · exact up2_same _ _ _ _
          · rw [if_neg hc] at step
            exact ihe (g + 1) K (by omega) fK (by rw [step]; exact sK)
      exact inner (aq a + 1) 0 J (by omega) fJ sJ
  have l30 : ∀ d r I, r + d = aq a ^ an a → Fr mwP I0 I → bsI I s → (∀ v, v < avw a w → ∀ g, g ≤ aq a → I 37 (5 * v + g) = Gs a h lw k r w v g) → M_weighs_l30 (nI w) (nI (avw a w)) Q (d + 1) I (nI r) := by
    intro d
    induction d with
    | zero =>
      intro r I hr f sI h37
      have : r = aq a ^ an a := by omega
      subst this
      have MI := M.fr f
      rw [M_weighs_l30, MI.2.1.2.1]
      exact it (nI_le (Nat.le_refl _) (by omega)) ⟨avw a w + 1, l165 I f h37 (avw a w) 0 I (by omega) Fr.rf sI⟩
    | succ d ih =>
      intro r I hr f sI h37
      have hr' : r < aq a ^ an a := by omega
      have MI := M.fr f
      obtain ⟨-, RI, hd, hH, e4, e5, l3, k8⟩ := MI
      rw [M_weighs_l30, RI.2.1]
      refine ie (nI_ge (by omega) (by omega)) (M_counts_k W RI.1.1 RI.1.2.1 hH (by omega) ?_)
      cases hc : cts a h r with
      | false =>
        rw [nI_1]
        refine it rfl (ih (r + 1) I (by omega) f sI (fun v hv g hg => ?_))
        rw [h37 v hv g hg, Gs, if_neg (by rw [hc]; simp)]
      | true =>
        refine ie (by decide) (M_laysOut_k W RI hr' (hd r hr') (fun I5 f5 h17 h18 => ?_))
        have g5 : Fr mwP I0 I5 := f.tr (f5.mono (fun b i hb => by unfold mwP; omega))
        have M5 := M.fr g5
        obtain ⟨-, R5, hd5, -, e45, e55, -, -⟩ := M5
        refine M_viewOf_k (h := hat a r) (g := gs a (hat a r)) W ⟨R5, h17, fun j hj _ => h18 j hj⟩ hw ?_
        have ev2 : view a (hat a r) (gs a (hat a r)) w = vwg a r w := rfl
        rw [ev2, nx_nI (by omega), (hd5 r hr').1, (hd5 r hr').2.1]
        have v65 : vp_in (nI r) 6561 := vin (by omega) (by omega)
        have hvw := vwg_lt W (r := r) hw
        refine ⟨v65, v65, M_isWon_k e45 e55 R5.1.1 l3 k8 n8 (rt_lt a r) (wr_lt a r) ?_⟩
        have l90 : ∀ e g K, g + e = aq a + 1 → Fr mwP I0 K → bsI K s → (∀ v, v < avw a w → ∀ g2, g2 ≤ aq a → K 37 (5 * v + g2) = if g2 < g then Gs a h lw k (r + 1) w v g2 else Gs a h lw k r w v g2) → M_weighs_l90 (nI w) (nI (avw a w)) (nI r) (nI (vwg a r w)) (b01 (won9 a lw k r)) (fun I' x3' => M_weighs_l30 (nI w) (nI (avw a w)) Q (d + 1) I' x3') Q (e + 1) K (nI g) := by
          intro e
          induction e with
          | zero =>
            intro g K he fK sK hK
            have MK := M.fr fK
            rw [M_weighs_l90, MK.2.1.1.2.1, nI_1]
            refine it (nI_lt (by omega) (by omega)) (ih (r + 1) K (by omega) fK sK (fun v hv g2 hg2 => ?_))
            rw [hK v hv g2 hg2, if_pos (by omega)]
          | succ e ihe =>
            intro g K he fK sK hK
            have MK := M.fr fK
            obtain ⟨-, RK, hdK, -, e4K, e5K, -, -⟩ := MK
            have tK : K 5 (1024 * w + vwg a r w) = nI (atb a w (vwg a r w)) := (RK.2.2 w hw).2.1 h0 _ hvw
            have tl := (W.2.2.2.2.2 w hw).2.2.2.2 h0 _ hvw
            have k37 : K 37 (5 * vwg a r w + g) = Gs a h lw k r w (vwg a r w) g := by rw [hK _ hvw g (by omega), if_neg (by omega)]
            rw [M_weighs_l90, RK.1.2.1, nlit1024, nM, nI_add, nx_nI (show 1024 * w + vwg a r w < 2 ^ 31 by omega), tK, show (5 : Int32) = nI 5 from rfl, nM, nI_add, nx_nI (show 5 * vwg a r w + g < 2 ^ 31 by omega), k37]
            simp only [nI_1]
            have vv : vp_in (nI (5 * vwg a r w + g)) 1280 := vin (by omega) (by omega)
            refine ie (nI_nlt (by omega) (by omega)) ⟨vin (by omega) (by omega), ic (fun hq => ?_) (fun hq => ⟨vv, ?_⟩)⟩
            · rw [nI_eq (by omega) (by omega)] at hq
              refine ihe (g + 1) K (by omega) fK sK (fun v hv g2 hg2 => ?_)
              rw [hK v hv g2 hg2]
              by_cases c1 : g2 < g
              · rw [if_pos c1, if_pos (by omega)]
              · rw [if_neg c1]
                by_cases c2 : g2 = g
                · rw [if_pos (by omega), Gs]
                  by_cases c3 : cts a h r = true ∧ vwg a r w = v ∧ g2 ≤ aq a
                  · rw [if_pos c3]
                    have eg : g2 = gs a (hat a r) w := by rw [gs_tab W hw h0, c2]; exact hq
                    rw [eg, wonM_self W, sub_self32]
                  · rw [if_neg c3]
                · rw [if_neg (by omega)]
            · refine wonIf_k (lw := lw) (k := k) W RK (hdK r hr') hr' hw (by omega) e4K e5K l3 k8 (fun I12 f12 => ?_)
              have b146 : ∀ y, y = b01 (wonM a lw k r w g) → M_weighs_b146 I12 (nI w) (nI (avw a w)) (nI r) (nI (vwg a r w)) (b01 (won9 a lw k r)) (nI g) y (Gs a h lw k r w (vwg a r w) g) (nI (5 * vwg a r w + g)) (fun I' x3' => M_weighs_l30 (nI w) (nI (avw a w)) Q (d + 1) I' x3') (fun I' x6' => M_weighs_l90 (nI w) (nI (avw a w)) (nI r) (nI (vwg a r w)) (b01 (won9 a lw k r)) (fun I' x3' => M_weighs_l30 (nI w) (nI (avw a w)) Q (d + 1) I' x3') Q (e + 1) I' x6') Q := by
                intro y hy
                unfold M_weighs_b146
                rw [nx_nI (by omega), nI_1]
                refine ⟨vv, ihe (g + 1) _ (by omega) ((fK.tr (f12.mono (fun b i hb => by unfold mwP; omega))).up (by unfold mwP; omega)) ⟨?_, fun p hp => ?_⟩ (fun v hv g2 hg2 => ?_)⟩
                · rw [up2_get, if_neg (by omega), f12 _ _ (by omega)]; exact sK.1
                · obtain ⟨p1, p2, p3⟩ := sK.2 p hp
                  refine ⟨?_, ?_, ?_⟩
                  · rw [up2_get, if_neg (by omega), f12 _ _ (by omega)]; exact p1
                  · rw [up2_get, if_neg (by omega), f12 _ _ (by omega)]; exact p2
                  · rw [up2_get, if_neg (by omega), f12 _ _ (by omega)]; exact p3
                · rw [up2_get]
                  by_cases c : v = vwg a r w ∧ g2 = g
                  · rw [if_pos ⟨rfl, by rw [c.1, c.2]⟩, hy, if_pos (by omega), Gs, if_pos ⟨hc, c.1.symm, hg2⟩, c.1, c.2]
                  · rw [if_neg (by omega), f12 _ _ (by omega), hK v hv g2 hg2]
                    by_cases c1 : g2 < g
                    · rw [if_pos c1, if_pos (by omega)]
                    · rw [if_neg c1]
                      by_cases c2 : g2 = g
                      · rw [if_pos (by omega), Gs, if_neg (fun q => c ⟨q.2.1.symm, c2⟩)]
                      · rw [if_neg (by omega)]
              cases hv9 : wonM a lw k r w g with
              | false => exact it rfl (b146 0 (by rw [hv9]; rfl))
              | true => exact ie (by decide) (b146 1 (by rw [hv9]; rfl))
        have m0 := l90 (aq a + 1) 0 I5 (by omega) g5 ⟨by rw [f5 _ _ (by omega)]; exact sI.1, fun p hp => by rw [f5 _ _ (by omega), f5 _ _ (by omega), f5 _ _ (by omega)]; exact sI.2 p hp⟩ (fun v hv g hg => by rw [f5 _ _ (by omega), if_neg (by omega)]; exact h37 v hv g hg)
        show if b01 (won9 a lw k r) = 0 then _ else _
        cases hv9 : won9 a lw k r with
        | false => rw [hv9] at m0; exact it rfl ⟨_, m0⟩
        | true => rw [hv9] at m0; exact ie (by decide) ⟨_, m0⟩
  have l8 : ∀ d i I, i + d = 5 * avw a w → Fr mwP I0 I → bsI I s → (∀ j, j < i → I 37 j = 0) → M_weighs_l8 (nI w) (nI (avw a w)) Q (d + 1) I (nI i) := by
    intro d
    induction d with
    | zero =>
      intro i I hi f sI hz
      rw [M_weighs_l8, show (5 : Int32) = nI 5 from rfl, nM]
      exact it (nI_le (by omega) (by omega)) ⟨aq a ^ an a + 1, l30 (aq a ^ an a) 0 I (by omega) f sI (fun v hv g hg => hz _ (by omega))⟩
    | succ d ih =>
      intro i I hi f sI hz
      rw [M_weighs_l8, show (5 : Int32) = nI 5 from rfl, nM, nx_nI (by omega), nI_1]
      refine ie (nI_ge (by omega) (by omega)) ⟨vin (by omega) (by omega), ih (i + 1) _ (by omega) (f.up (by unfold mwP; omega)) ⟨by rw [up2_get, if_neg (by omega)]; exact sI.1, fun p hp => by rw [up2_get, if_neg (by omega), up2_get, if_neg (by omega), up2_get, if_neg (by omega)]; exact sI.2 p hp⟩ (fun j hj => ?_)⟩
      rw [up2_get]
      by_cases e : j = i
      · rw [if_pos ⟨rfl, e⟩]
      · rw [if_neg (by omega)]; exact hz j (by omega)
  exact ⟨5 * avw a w + 1, l8 (5 * avw a w) 0 I0 (by omega) Fr.rf hs (fun j hj => by omega)⟩
