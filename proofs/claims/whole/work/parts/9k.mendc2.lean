/-! mend: the class's best guess -/
def sW (s : BS) : Int32 := match s.2 with
  | none => -1
  | some p => nI p.1
def sX (s : BS) : Int32 := match s.2 with
  | none => 0
  | some p => nI (5 * p.2.1 + p.2.2)
def stI (a : AN) (h : Nat → Nat) (lw k w : Nat) (s : BS) (i : Nat) : BS := bG a h lw k w (i / 5) (bV a h lw k w s (i / 5)) (if i % 5 ≤ aq a + 1 then i % 5 else aq a + 1)
theorem stI_s {a : AN} {h : Nat → Nat} {lw k w : Nat} {s : BS} {i : Nat} (q4 : aq a ≤ 4) : stI a h lw k w s (i + 1) = if i % 5 ≤ aq a then (if (stI a h lw k w s i).1 < Gs a h lw k (aq a ^ an a) w (i / 5) (i % 5) then (Gs a h lw k (aq a ^ an a) w (i / 5) (i % 5), some (w, i / 5, i % 5)) else stI a h lw k w s i) else stI a h lw k w s i := by
  have step : ∀ g, bG a h lw k w (i / 5) (bV a h lw k w s (i / 5)) (g + 1) = if (bG a h lw k w (i / 5) (bV a h lw k w s (i / 5)) g).1 < Gs a h lw k (aq a ^ an a) w (i / 5) g then (Gs a h lw k (aq a ^ an a) w (i / 5) g, some (w, i / 5, g)) else bG a h lw k w (i / 5) (bV a h lw k w s (i / 5)) g := fun g => rfl
  unfold stI
  by_cases h4 : i % 5 = 4
  · rw [show (i + 1) / 5 = i / 5 + 1 by omega, show (i + 1) % 5 = 0 by omega, if_pos (show 0 ≤ aq a + 1 by omega)]
    have e : bG a h lw k w (i / 5 + 1) (bV a h lw k w s (i / 5 + 1)) 0 = bG a h lw k w (i / 5) (bV a h lw k w s (i / 5)) (aq a + 1) := rfl
    rw [e]
    by_cases c : i % 5 ≤ aq a
    · have : aq a = i % 5 := by omega
      rw [if_pos c, if_pos (show i % 5 ≤ aq a + 1 by omega)]
      have e9 : aq a + 1 = i % 5 + 1 := by omega
      have e10 : bG a h lw k w (i / 5) (bV a h lw k w s (i / 5)) (aq a + 1) = bG a h lw k w (i / 5) (bV a h lw k w s (i / 5)) (i % 5 + 1) := by rw [e9]
      rw [e10]
      exact step _
    · rw [if_neg c]
      by_cases c2 : i % 5 ≤ aq a + 1
      · rw [if_pos c2, show i % 5 = aq a + 1 by omega]
      · rw [if_neg c2]
  · rw [show (i + 1) / 5 = i / 5 by omega, show (i + 1) % 5 = i % 5 + 1 by omega]
    by_cases c : i % 5 ≤ aq a
    · rw [if_pos c, if_pos (show i % 5 + 1 ≤ aq a + 1 by omega), if_pos (show i % 5 ≤ aq a + 1 by omega)]
      exact step _
    · rw [if_neg c, if_neg (show ¬ i % 5 + 1 ≤ aq a + 1 by omega)]
      by_cases c2 : i % 5 ≤ aq a + 1
      · rw [if_pos c2, show i % 5 = aq a + 1 by omega]
      · rw [if_neg c2]
theorem stI_ok {a : AN} {h : Nat → Nat} {lw k w : Nat} {s : BS} (hw : w < an a) (h0 : akd a w = 0) (hs : bok a s) (q4 : aq a ≤ 4) : ∀ i, i ≤ 5 * avw a w → bok a (stI a h lw k w s i)
  | 0, _ => hs
  | i + 1, hi => by
    have ih := stI_ok (h := h) (lw := lw) (k := k) hw h0 hs q4 i (by omega)
    rw [stI_s q4]
    split
    · rename_i c
      split
      · rename_i hlt
        have hp : 0 < Gs a h lw k (aq a ^ an a) w (i / 5) (i % 5) := by
          have := ih.1
          rw [Int32.lt_iff_toInt_lt] at this hlt ⊢
          have e0 : (0 : Int32).toInt = 0 := rfl
          omega
        refine ⟨fun q => ?_, (fun q => by cases q), fun p q => ?_⟩
        · rw [Int32.lt_iff_toInt_lt] at q hp
          dsimp only at q
          omega
        · cases q; exact ⟨hp, hw, h0, by dsimp only; omega, by dsimp only; omega⟩
      · exact ih
    · exact ih
theorem takeBest_k {own h : Nat → Nat} {a : AN} {lw k : Nat} {T F : HR} {L : HL} {I : HI} (W : WF a) (N : CN I 1 a) (C : CT I T F L own 1 a) (b256 : bsv a (an a) ≤ 256) (hG : gnI I a (Gs a h lw k (aq a ^ an a))) {Q : Int32 → HI → Prop} (hn : (bW a h lw k (an a)).2 = none → Q 0 I) (hy : ∀ p, (bW a h lw k (an a)).2 = some p → Q 1 (up2 I 8 (1024 * p.1 + p.2.1) (nI p.2.2))) : Men_takeBest I T 1 Q := by
  have n8 := W.2.1
  have q4 := W.2.2.2.1
  have bo : ∀ w, w < an a → akd a w = 0 → bsv a w + avw a w ≤ 256 := fun w hw h0 => Nat.le_trans (bsv_mono hw h0) b256
  have fin := bW_ok (a := a) (h := h) (lw := lw) (k := k) (an a) (Nat.le_refl _)
  have main : ∀ d w, w + d = an a → Men_takeBest_l13 I T 1 Q (d + 1) (bW a h lw k w).1 (sW (bW a h lw k w)) (sX (bW a h lw k w)) (nI (5 * bsv a w)) (nI w) := by
    intro d
    induction d with
    | zero =>
      intro w hw
      have : w = an a := by omega
      subst this
      rw [Men_takeBest_l13, N.1]
      refine it (nI_le (Nat.le_refl _) (by omega)) ?_
      cases e : (bW a h lw k (an a)).2 with
      | none =>
        have es : sW (bW a h lw k (an a)) = -1 := by unfold sW; rw [e]
        rw [es]
        exact it rfl (hn e)
      | some p =>
        obtain ⟨p1, p2, p3, p4, p5⟩ := fin.2.2 p e
        have v1 := W.k1 p.1 p2 p3
        have es : sW (bW a h lw k (an a)) = nI p.1 := by unfold sW; rw [e]
        have ex : sX (bW a h lw k (an a)) = nI (5 * p.2.1 + p.2.2) := by unfold sX; rw [e]
        rw [es, ex, show (5 : Int32) = nI 5 from rfl, nDiv (by omega) (by omega), nRem (by omega) (by omega), show (5 * p.2.1 + p.2.2) / 5 = p.2.1 by omega, show (5 * p.2.1 + p.2.2) % 5 = p.2.2 by omega]
        exact ie (nI_nm1 (by omega)) (setGuess_k (by omega) (by omega) (by omega) (hy p e))
    | succ d ih =>
      intro w hw
      have hw' : w < an a := by omega
      have ih := ih (w + 1) (by omega)
      have eW : bW a h lw k (w + 1) = if akd a w = 0 then bV a h lw k w (bW a h lw k w) (avw a w) else bW a h lw k w := rfl
      have sok9 := bW_ok (a := a) (h := h) (lw := lw) (k := k) w (by omega)
      rw [Men_takeBest_l13, N.1]
      refine ie (nI_ge (by omega) (by omega)) (Net_has_k W N C hw' (fun h0 => ie (by decide) ⟨vin (by omega) (by omega), ?_⟩) (fun h0 => it rfl ?_))
      · have v1 := W.k1 w hw' h0
        have hb := bo w hw' h0
        rw [nx_nI (by omega), N.2.2.2.2.2.2.1 w hw', show vwi (avw a w) = nI (avw a w) from if_pos v1, show (5 : Int32) = nI 5 from rfl, nM]
        rw [eW, if_pos h0, bsv_s, if_pos h0] at ih
        have key : ∀ e i, i + e = avw a w * 5 → Men_takeBest_l49 I T 1 (nI (5 * bsv a w)) (nI w) (nI (avw a w * 5)) (fun x2' x3' x4' x5' x6' => Men_takeBest_l13 I T 1 Q (d + 1) x2' x3' x4' x5' x6') Q (e + 1) (stI a h lw k w (bW a h lw k w) i).1 (sW (stI a h lw k w (bW a h lw k w) i)) (sX (stI a h lw k w (bW a h lw k w) i)) (nI i) := by
          intro e
          induction e with
          | zero =>
            intro i hi
            have ei : i = 5 * avw a w := by omega
            rw [Men_takeBest_l49, nI_add, nI_1]
            refine it (nI_le (by omega) (by omega)) ?_
            have es : stI a h lw k w (bW a h lw k w) i = bV a h lw k w (bW a h lw k w) (avw a w) := by
              unfold stI
              rw [ei, Nat.mul_div_cancel_left _ (by omega), Nat.mul_mod_right, if_pos (by omega)]; rfl
            rw [es, show 5 * bsv a w + avw a w * 5 = 5 * (bsv a w + avw a w) by omega]
            exact ih
          | succ e ihe =>
            intro i hi
            have ihe := ihe (i + 1) (by omega)
            rw [stI_s q4] at ihe
            have ok := stI_ok (h := h) (lw := lw) (k := k) hw' h0 sok9 q4 i (by omega)
            have eG : I 49 (5 * bsv a w + i) = Gs a h lw k (aq a ^ an a) w (i / 5) (i % 5) := by
              rw [← hG w hw' h0 (i / 5) (by omega) (i % 5) (by omega)]
              congr 1; omega
            rw [Men_takeBest_l49, nI_add (5 * bsv a w) i, nx_nI (show 5 * bsv a w + i < 2 ^ 31 by omega), eG]
            simp only [nI_1]
            have v12 : vp_in (nI (5 * bsv a w + i)) 1280 := vin (by omega) (by omega)
            refine ie (nI_ge (by omega) (by omega)) ⟨v12, ic (fun hc => ?_) (fun hc => ⟨v12, ?_⟩)⟩
            · have nlt : ¬ (stI a h lw k w (bW a h lw k w) i).1 < Gs a h lw k (aq a ^ an a) w (i / 5) (i % 5) := fun q => nle_of_lt q hc
              rw [if_neg nlt] at ihe
              simp only [ite_self] at ihe
              exact ihe
            · have lt := lt_of_nle hc
              have cg : i % 5 ≤ aq a := by
                by_cases q : i % 5 ≤ aq a
                · exact q
                · rw [Gs_big (by omega)] at lt
                  exact absurd lt ok.1
              rw [if_pos cg, if_pos lt] at ihe
              have ex : sX (Gs a h lw k (aq a ^ an a) w (i / 5) (i % 5), some (w, i / 5, i % 5)) = nI i := by
                show nI (5 * (i / 5) + i % 5) = nI i
                congr 1; omega
              rw [ex] at ihe
              exact ihe
        exact ⟨_, key (avw a w * 5) 0 (by omega)⟩
      · rw [eW, if_neg h0, bsv_s, if_neg h0] at ih
        refine ⟨1, ?_⟩
        rw [Men_takeBest_l49, nI_1, show (nI (5 * bsv a w) + 0 : Int32) = nI (5 * bsv a w) from by rw [nlit0, nI_add]; rfl]
        exact it (Int32.le_refl _) ih
  exact ⟨an a + 1, main (an a) 0 (by omega)⟩
theorem mendOne_k {own h : Nat → Nat} {a : AN} {lw k : Nat} {T F : HR} {L : HL} {I0 : HI} (W : WF a) (N0 : CN I0 1 a) (C0 : CT I0 T F L own 1 a) (o56 : ∀ x, x < 56 → own x = 0) (b256 : bsv a (an a) ≤ 256) (hH : ∀ c, c < 4 → I0 24 c = nI (h c) ∧ h c ≤ 9) (e4 : I0 23 1 = nI lw) (e5 : I0 23 2 = nI k) (l3 : lw ≤ 3) (k8 : k ≤ 8) {Q : Int32 → HI → Prop} (hn : (bW a h lw k (an a)).2 = none → ∀ I, Fr (mdP own) I0 I → Q 0 I) (hy : ∀ p, (bW a h lw k (an a)).2 = some p → ∀ I, Fr (mdP own) I0 I → Q 1 (up2 I 8 (1024 * p.1 + p.2.1) (nI p.2.2))) : Men_mendOne I0 T F L 1 Q := by
  have n8 := W.2.1
  have r5 := W.2.2.2.2.1
  have lo : ∀ (I' : HI), Fr (mdP own) I0 I' → ∀ b i, b < 49 → b ≠ 25 → I' b i = I0 b i := fun I' f b i h1 h2 => f b i (by have := o56 b (by omega); unfold mdP; omega)
  unfold Men_mendOne
  refine fillI_k (by omega) (fun I1 f1 z1 => ⟨aq a ^ an a + 1, ?_⟩)
  have bo : ∀ w, w < an a → akd a w = 0 → bsv a w + avw a w ≤ 256 := fun w hw h0 => Nat.le_trans (bsv_mono hw h0) b256
  have key : ∀ d r I, r + d = aq a ^ an a → Fr (mdP own) I0 I → gnI I a (Gs a h lw k r) → Men_mendOne_l10 T F L 1 Q (d + 1) I (nI r) := by
    intro d
    induction d with
    | zero =>
      intro r I hr f hG
      have : r = aq a ^ an a := by omega
      subst this
      have NI : CN I 1 a := N0.eq (fun j i hj => lo I f _ _ (by omega) (by omega))
      have CI : CT I T F L own 1 a := C0.fr (fun b i hb => f _ _ (by have := o56 b; unfold mdP; omega)) (fun _ _ => rfl) n8 Ext.rf
      rw [Men_mendOne_l10, NI.2.2.1]
      exact it (nI_le (Nat.le_refl _) (by omega)) (takeBest_k W NI CI b256 hG (fun e => ⟨zb_0, hn e I f⟩) (fun p e => ⟨zb_1, hy p e I f⟩))
    | succ d ih =>
      intro r I hr f hG
      have NI : CN I 1 a := N0.eq (fun j i hj => lo I f _ _ (by omega) (by omega))
      have CI : CT I T F L own 1 a := C0.fr (fun b i hb => f _ _ (by have := o56 b; unfold mdP; omega)) (fun _ _ => rfl) n8 Ext.rf
      rw [Men_mendOne_l10, NI.2.2.1]
      refine ie (nI_ge (by omega) (by omega)) (Sc_play_k (r := 50) W NI CI (o56 51 (by omega)) (o56 52 (by omega)) (fun j hj => ⟨by omega, by omega⟩) (by omega) (fun I6 f6 h51 h52 => ?_))
      have g6 : Fr (mdP own) I0 I6 := f.tr (f6.mono (fun b i hb => by unfold mdP; omega))
      have N6 : CN I6 1 a := N0.eq (fun j i hj => lo I6 g6 _ _ (by omega) (by omega))
      rw [N6.1]
      refine weigh_pos (H := h) W (fun c hc => ⟨(lo I6 g6 _ _ (by omega) (by omega)).trans (hH c hc).1, (hH c hc).2⟩) (by omega) h51 (fun I9 z f9 hz => ?_)
      have g9 : Fr (mdP own) I0 I9 := g6.tr (f9.mono (fun b i hb => by unfold mdP; omega))
      have hG9 : gnI I9 a (Gs a h lw k r) := fun w hw h0 v hv g hg => by
        rw [f9 _ _ (by omega), f6 _ _ (by have := o56 49 (by omega); omega)]; exact hG w hw h0 v hv g hg
      rw [nI_1]
      refine ic (fun hc => ?_) (fun hc => ?_)
      · rw [hz] at hc
        refine ih (r + 1) I9 (by omega) g9 (fun w hw h0 v hv g hg => ?_)
        rw [hG9 w hw h0 v hv g hg, Gs, if_neg (by rw [hc]; simp)]
      · rw [hz] at hc
        have hc : cts a h r = true := by cases e : cts a h r; exact absurd e hc; rfl
        have N9 : CN I9 1 a := N0.eq (fun j i hj => lo I9 g9 _ _ (by omega) (by omega))
        have C9 : CT I9 T F L own 1 a := C0.fr (fun b i hb => g9 _ _ (by have := o56 b; unfold mdP; omega)) (fun _ _ => rfl) n8 Ext.rf
        refine note_gains W N9 C9 o56 b256 hc ((lo I9 g9 _ _ (by omega) (by omega)).trans e4) ((lo I9 g9 _ _ (by omega) (by omega)).trans e5) l3 k8 (fun j hj => (f9 _ _ (by omega)).trans (h51 j hj)) (fun j hj => (f9 _ _ (by omega)).trans (h52 j hj)) hG9 (fun I11 f11 hG11 => ih (r + 1) I11 (by omega) (g9.tr (f11.mono (fun b i hb => by unfold mdP; omega))) hG11)
  refine key (aq a ^ an a) 0 I1 (by omega) (f1.mono (fun b i hb => by unfold mdP; omega)) (fun w hw h0 v hv g hg => ?_)
  have := bo w hw h0
  exact z1 _ (by omega)
