/-! mend: the class's side -/
theorem anew_k {I : HI} {T F : HR} {L : HL} {own : Nat → Nat} {a : AN} {h : Nat → Nat} {r w x : Nat} (W : WF a) (N : CN I 1 a) (D : CT I T F L own 1 a) (h1 : ∀ k, k < an a → I (r + 1) k = nI (h k)) (h2 : ∀ k, k < an a → I (r + 2) k = nI (gs a h k)) (hor : own (r + 1) ≠ 3 ∧ own (r + 2) = 0) (hr : 10 ≤ r) (hh : ∀ k, k < an a → h k < aq a) (hw : w < an a) (hx : x ≤ aq a) {Q : HI → Prop} (hQ : ∀ I', Fr (scP own r) I I' → (∀ k, k < an a → I' (r + 2) k = nI (gm a h w x k)) → Q I') : Sc_guessAnew I T F L r 1 (nI w) (nI x) Q := by
  have n8 := W.2.1
  have gle := gm_le (w := w) W hh hx
  obtain ⟨o, hO, ho⟩ := N.2.2.2.2.2.2.2.1
  obtain ⟨O1, O2, O3⟩ := hO
  have rw7 := (W.2.2.2.2.2 w hw).2.2.1
  have key : ∀ d i J, i + d = an a → Fr (scP own r) I J → (∀ k, k < an a → ard a k ≤ ard a w ∨ (∃ j, j < i ∧ o j = k) → J (r + 2) k = nI (gm a h w x k)) → Sc_guessAnew_l10 T F L r 1 (nI w) Q (d + 1) J (nI i) := by
    intro d
    induction d with
    | zero =>
      intro i J hi f hs
      have hN : CN J 1 a := N.eq (fun j k hj => f _ _ (by unfold scP; have := (D.1 j hj).2; omega))
      rw [Sc_guessAnew_l10, hN.1]
      refine it (nI_le (by omega) (by omega)) (hQ J f (fun k hk => ?_))
      obtain ⟨j, hj, e⟩ := O3 k hk
      exact hs k hk (Or.inr ⟨j, by omega, e⟩)
    | succ d ih =>
      intro i J hi f hs
      have hN : CN J 1 a := N.eq (fun j k hj => f _ _ (by unfold scP; have := (D.1 j hj).2; omega))
      have hoi := O1 i (by omega)
      have roi := (W.2.2.2.2.2 (o i) hoi).2.2.1
      have eo : J (1 + 5) i = nI (o i) := by
        rw [f _ _ (by unfold scP; have := (D.1 5 (by omega)).2; omega)]; exact ho i (by omega)
      rw [Sc_guessAnew_l10, hN.1, nx_nI (show i < 2 ^ 31 by omega), eo, nx_nI (show o i < 2 ^ 31 by omega), nx_nI (show w < 2 ^ 31 by omega), hN.2.2.2.2.1 (o i) hoi, hN.2.2.2.2.1 w hw]
      simp only [nI_1]
      refine ie (nI_ge (by omega) (by omega)) ⟨vin (by omega) (by omega), vin (by omega) (by omega), vin (by omega) (by omega), ic (fun hc => ?_) (fun hc => ?_)⟩
      · rw [nI_leI (by omega) (by omega)] at hc
        refine ih (i + 1) J (by omega) f (fun k hk q => hs k hk ?_)
        rcases q with q | ⟨j, hj, e⟩
        · exact Or.inl q
        · by_cases ej : j = i
          · rw [ej] at e; rw [← e]; exact Or.inl hc
          · exact Or.inr ⟨j, by omega, e⟩
      · rw [nI_leI (by omega) (by omega)] at hc
        have C : CRow J r 1 a h (gm a h w x) (o i) := ⟨hN, fun k hk => by rw [f _ _ (by unfold scP; omega)]; exact h1 k hk, fun k hk hr2 => by
          obtain ⟨j, hj, e⟩ := O3 k hk
          refine hs k hk (Or.inr ⟨j, ?_, e⟩)
          by_cases hji : j < i
          · exact hji
          · exfalso
            by_cases hji2 : j = i
            · subst hji2; rw [e] at hr2; omega
            · have := O2 i j (by omega) hj
              rw [e] at this
              omega⟩
        have DJ : CT J T F L own 1 a := D.fr (fun b k hb => f _ _ (by unfold scP; intro q; rcases q with q | q; (rw [q] at hb; omega); omega)) (fun _ _ => rfl) n8 Ext.rf
        refine Sc_guessOf_k W hoi C DJ ⟨hor.1, by rw [hor.2]; decide⟩ hh (fun k hk _ => gle k hk) (fun J2 f2 => ⟨vin (by omega) (by omega), ?_⟩)
        rw [← gm_fix W hoi (by omega)]
        refine ih (i + 1) _ (by omega) ((f.tr (f2.mono (fun b k hb => Or.inr hb))).up (Or.inl rfl)) (fun k hk q => ?_)
        rw [up2_get]
        by_cases e : k = o i
        · rw [if_pos ⟨rfl, e⟩, e]
        · rw [if_neg (by omega), f2 _ _ (show ¬ own (r + 2) = 3 by rw [hor.2]; decide)]
          refine hs k hk ?_
          rcases q with q | ⟨j, hj, ej⟩
          · exact Or.inl q
          · by_cases e2 : j = i
            · rw [e2] at ej; exact absurd ej.symm e
            · exact Or.inr ⟨j, by omega, ej⟩
  unfold Sc_guessAnew
  rw [nx_nI (by omega)]
  refine ⟨vin (by omega) (by omega), an a + 1, key (an a) 0 _ (by omega) (Fr.rf.up (Or.inl rfl)) (fun k hk q => ?_)⟩
  rw [up2_get]
  rcases q with q | ⟨j, hj, _⟩
  · rw [gm_lo q]
    by_cases e : k = w
    · rw [if_pos ⟨rfl, e⟩, if_pos e]
    · rw [if_neg (by omega), if_neg e]; exact h2 k hk
  · omega
theorem zb_b (b : Bool) : zb (b01 b) := by
  cases b
  · exact zb_0
  · exact zb_1
theorem menWon_k {I : HI} {a : AN} {r lw k : Nat} {h g : Nat → Nat} (W : WF a) (N : CN I 1 a) (h1 : ∀ j, j < an a → I (r + 1) j = nI (h j)) (h2 : ∀ j, j < an a → I (r + 2) j = nI (g j)) (bh : ∀ j, j < an a → h j < aq a) (bg : ∀ j, j < an a → g j ≤ aq a) (e4 : I 23 1 = nI lw) (e5 : I 23 2 = nI k) (l3 : lw ≤ 3) (k8 : k ≤ 8) {Q : Int32 → Prop} (hQ : Q (b01 (wonB lw k (an a) (pop (rts a h g)) (decide (wrs a h g = 0))))) : Men_isWon I r 1 Q := by
  have q4 := W.2.2.2.1
  unfold Men_isWon
  refine Sc_right_k W N.1 h1 h2 (fun j hj => by have := bh j hj; omega) (fun j hj => by have := bg j hj; omega) (Sc_wrong_k W N.1 N.2.1 h1 h2 (fun j hj => by have := bh j hj; omega) (fun j hj => by have := bg j hj; omega) ?_)
  rw [N.1]
  refine Jud_isWon_k (lw := lw) (k := k) e4 e5 l3 k8 W.2.1 (msk_lt _ _) (msk_lt _ _) ⟨zb_b _, hQ⟩
/-- the class's gains -/
def gnI (I : HI) (a : AN) (G : Nat → Nat → Nat → Int32) : Prop := ∀ w, w < an a → akd a w = 0 → ∀ v, v < avw a w → ∀ g, g < 5 → I 49 ((bsv a w + v) * 5 + g) = G w v g
/-- while a row is noted -/
def Gp (a : AN) (h : Nat → Nat) (lw k r w0 g0 : Nat) (w v g : Nat) : Int32 := if w < w0 ∨ w = w0 ∧ g < g0 then Gs a h lw k (r + 1) w v g else Gs a h lw k r w v g
def mdP (own : Nat → Nat) : Nat → Nat → Prop := fun b _ => b = 25 ∨ b = 49 ∨ b = 51 ∨ b = 52 ∨ b = 54 ∨ b = 55 ∨ own b = 3
theorem note_gains {own h : Nat → Nat} {a : AN} {lw k r : Nat} {T F : HR} {L : HL} {I0 : HI} (W : WF a) (N0 : CN I0 1 a) (C0 : CT I0 T F L own 1 a) (o56 : ∀ x, x < 56 → own x = 0) (b256 : bsv a (an a) ≤ 256) (hc : cts a h r = true) (e4 : I0 23 1 = nI lw) (e5 : I0 23 2 = nI k) (l3 : lw ≤ 3) (k8 : k ≤ 8) (h51 : ∀ j, j < an a → I0 51 j = nI (hat a r j)) (h52 : ∀ j, j < an a → I0 52 j = nI (gs a (hat a r) j)) (hG : gnI I0 a (Gs a h lw k r)) {Q : HI → Prop} (hQ : ∀ I, Fr (fun b _ => b = 49 ∨ b = 54 ∨ b = 55 ∨ own b = 3) I0 I → gnI I a (Gs a h lw k (r + 1)) → Q I) : Men_noteGains I0 T F L 1 Q := by
  have n8 := W.2.1
  have q2 := W.2.2.1
  have q4 := W.2.2.2.1
  have hl : ∀ j, j < an a → hat a r j < aq a := fun j _ => hat_lt W r j
  have gl9 := gs_le W hl
  have lo : ∀ (I' : HI), Fr (fun b _ => b = 49 ∨ b = 54 ∨ b = 55 ∨ own b = 3) I0 I' → ∀ b i, b < 56 → b ≠ 49 → b ≠ 54 → b ≠ 55 → I' b i = I0 b i := fun I' f b i h1 h2 h3 h4 => f b i (by have := o56 b h1; omega)
  have bo : ∀ w, w < an a → akd a w = 0 → bsv a w + avw a w ≤ 256 := fun w hw h0 => Nat.le_trans (bsv_mono hw h0) b256
  have main : ∀ d w I, w + d = an a → Fr (fun b _ => b = 49 ∨ b = 54 ∨ b = 55 ∨ own b = 3) I0 I → gnI I a (Gp a h lw k r w 0) → Men_noteGains_l24 T F L 1 (b01 (won9 a lw k r)) Q (d + 1) I (nI (bsv a w)) (nI w) := by
    intro d
    induction d with
    | zero =>
      intro w I hw f hg
      rw [Men_noteGains_l24, lo I f 1 0 (by omega) (by omega) (by omega) (by omega), N0.1]
      refine it (nI_le (by omega) (by omega)) (hQ I f (fun w' hw' h0 v hv g hg' => ?_))
      rw [hg w' hw' h0 v hv g hg']
      unfold Gp
      rw [if_pos (by omega)]
    | succ d ih =>
      intro w I hw f hg
      have hw' : w < an a := by omega
      have NI : CN I 1 a := N0.eq (fun j i hj => lo I f _ _ (by omega) (by omega) (by omega) (by omega))
      have CI : CT I T F L own 1 a := C0.fr (fun b i hb => f _ _ (by have := o56 b; omega)) (fun _ _ => rfl) n8 Ext.rf
      rw [Men_noteGains_l24, NI.1]
      refine ie (nI_ge (by omega) (by omega)) (Net_has_k W NI CI hw' (fun h0 => ie (by decide) ?_) (fun h0 => it rfl ?_))
      · have hv := vwg_lt W (r := r) hw'
        have hb := bo w hw' h0
        have v1 := W.k1 w hw' h0
        refine Sc_viewOf_k (h := hat a r) (g := gs a (hat a r)) W ⟨NI, fun j hj => (lo I f _ _ (by omega) (by omega) (by omega) (by omega)).trans (h51 j hj), fun j hj _ => (lo I f _ _ (by omega) (by omega) (by omega) (by omega)).trans (h52 j hj)⟩ hw' ?_
        rw [nI_add, show (5 : Int32) = nI 5 from rfl, nM]
        have ev : view a (hat a r) (gs a (hat a r)) w = vwg a r w := rfl
        rw [ev]
        refine ⟨aq a + 1 + 1, ?_⟩
        have inner : ∀ e g J, g + e = aq a + 1 → Fr (fun b _ => b = 49 ∨ b = 54 ∨ b = 55 ∨ own b = 3) I0 J → gnI J a (Gp a h lw k r w g) → Men_noteGains_l65 T F L 1 (b01 (won9 a lw k r)) (nI (bsv a w)) (nI w) (nI ((bsv a w + vwg a r w) * 5)) (fun I' x4' x5' => Men_noteGains_l24 T F L 1 (b01 (won9 a lw k r)) Q (d + 1) I' x4' x5') Q (e + 1) J (nI g) := by
          intro e
          induction e with
          | zero =>
            intro g J he fJ hJ
            have NJ : CN J 1 a := N0.eq (fun j i hj => lo J fJ _ _ (by omega) (by omega) (by omega) (by omega))
            rw [Men_noteGains_l65, NJ.2.1, nx_nI (by omega), NJ.2.2.2.2.2.2.1 w hw', show vwi (avw a w) = nI (avw a w) from if_pos v1, nI_add, nI_1]
            refine it (nI_lt (by omega) (by omega)) ⟨vin (by omega) (by omega), ?_⟩
            have := ih (w + 1) J (by omega) fJ (fun w2 hw2 h02 v hv g2 hg2 => ?_)
            · rw [bsv_s, if_pos h0] at this; exact this
            · rw [hJ w2 hw2 h02 v hv g2 hg2]
              unfold Gp
              by_cases c1 : w2 < w ∨ w2 = w ∧ g2 < g
              · rw [if_pos c1, if_pos (by omega)]
              · rw [if_neg c1]
                by_cases c2 : w2 = w
                · rw [if_pos (by omega)]
                  rw [Gs_big (show aq a < g2 by omega), Gs_big (show aq a < g2 by omega)]
                · rw [if_neg (by omega)]
          | succ e ihe =>
            intro g J he fJ hJ
            have NJ : CN J 1 a := N0.eq (fun j i hj => lo J fJ _ _ (by omega) (by omega) (by omega) (by omega))
            rw [Men_noteGains_l65, NJ.2.1]
            refine ie (nI_nlt (by omega) (by omega)) ?_
            unfold Sc_copy
            generalize hK : cp2 (cp2 J (50 + 1) 0 (53 + 1) 0 8) (50 + 2) 0 (53 + 2) 0 8 = K
            have fK : Fr (fun b _ => b = 54 ∨ b = 55) J K := fun b i hb => by rw [← hK, cp2_ne (by omega), cp2_ne (by omega)]
            have k54 : ∀ j, j < an a → K (53 + 1) j = nI (hat a r j) := fun j hj => by
              rw [← hK, cp2_ne (by omega), cp2_in (by omega)]
              exact (lo J fJ _ _ (by omega) (by omega) (by omega) (by omega)).trans (h51 j hj)
            have k55 : ∀ j, j < an a → K (53 + 2) j = nI (gs a (hat a r) j) := fun j hj => by
              rw [← hK, cp2_in (by omega), cp2_ne (by omega)]
              exact (lo J fJ _ _ (by omega) (by omega) (by omega) (by omega)).trans (h52 j hj)
            have gK : Fr (fun b _ => b = 49 ∨ b = 54 ∨ b = 55 ∨ own b = 3) I0 K := fJ.tr (fK.mono (fun b i hb => by omega))
            have NK : CN K 1 a := N0.eq (fun j i hj => lo K gK _ _ (by omega) (by omega) (by omega) (by omega))
            have CK : CT K T F L own 1 a := C0.fr (fun b i hb => gK _ _ (by have := o56 b; omega)) (fun _ _ => rfl) n8 Ext.rf
            refine anew_k (x := g) W NK CK k54 k55 ⟨by rw [o56 54 (by omega)]; decide, o56 55 (by omega)⟩ (by omega) hl hw' (by omega) (fun I9 f9 h9 => ?_)
            have g9 : Fr (fun b _ => b = 49 ∨ b = 54 ∨ b = 55 ∨ own b = 3) I0 I9 := gK.tr (f9.mono (fun b i hb => by unfold scP at hb; omega))
            have N9 : CN I9 1 a := N0.eq (fun j i hj => lo I9 g9 _ _ (by omega) (by omega) (by omega) (by omega))
            have i54 : ∀ j, j < an a → I9 (53 + 1) j = nI (hat a r j) := fun j hj => by rw [f9 _ _ (by unfold scP; have := o56 (53 + 1) (by omega); omega)]; exact k54 j hj
            have i49 : I9 49 ((bsv a w + vwg a r w) * 5 + g) = Gs a h lw k r w (vwg a r w) g := by
              rw [f9 _ _ (by unfold scP; have := o56 49 (by omega); omega), fK _ _ (by omega), hJ w hw' h0 _ hv g (by omega)]
              unfold Gp; rw [if_neg (by omega)]
            rw [nI_add, nx_nI (by omega), i49]
            have v1280 : vp_in (nI ((bsv a w + vwg a r w) * 5 + g)) 1280 := vin (by omega) (by omega)
            refine ⟨v1280, menWon_k (r := 53) (h := hat a r) (g := gm a (hat a r) w g) (lw := lw) (k := k) W N9 i54 h9 hl (gm_le W hl (by omega)) ((lo I9 g9 _ _ (by omega) (by omega) (by omega) (by omega)).trans e4) ((lo I9 g9 _ _ (by omega) (by omega) (by omega) (by omega)).trans e5) l3 k8 ?_⟩
            have b125 : ∀ y, y = b01 (wonM a lw k r w g) → Men_noteGains_b125 I9 T F L 1 (b01 (won9 a lw k r)) (nI (bsv a w)) (nI w) (nI ((bsv a w + vwg a r w) * 5)) (nI g) y (Gs a h lw k r w (vwg a r w) g) (nI ((bsv a w + vwg a r w) * 5 + g)) (fun I' x4' x5' => Men_noteGains_l24 T F L 1 (b01 (won9 a lw k r)) Q (d + 1) I' x4' x5') (fun I' x7' => Men_noteGains_l65 T F L 1 (b01 (won9 a lw k r)) (nI (bsv a w)) (nI w) (nI ((bsv a w + vwg a r w) * 5)) (fun I' x4' x5' => Men_noteGains_l24 T F L 1 (b01 (won9 a lw k r)) Q (d + 1) I' x4' x5') Q (e + 1) I' x7') Q := by
              intro y hy
              unfold Men_noteGains_b125
              rw [nx_nI (by omega), nI_1]
              refine ⟨v1280, ihe (g + 1) _ (by omega) (g9.up (by omega)) (fun w2 hw2 h02 v hv2 g2 hg2 => ?_)⟩
              have hb2 := bo w2 hw2 h02
              rw [up2_get]
              by_cases c : (bsv a w2 + v) * 5 + g2 = (bsv a w + vwg a r w) * 5 + g
              · have eg : g2 = g := by omega
                have ew : w2 = w := by
                  by_cases q : w2 = w
                  · exact q
                  · exfalso
                    by_cases q2 : w2 < w
                    · have := bsv_mono q2 h02; omega
                    · have := bsv_mono (show w < w2 by omega) h0; omega
                subst ew
                have evv : v = vwg a r w2 := by omega
                rw [if_pos ⟨rfl, c⟩, hy, evv, eg]
                unfold Gp
                rw [if_pos (by omega), Gs, if_pos ⟨hc, rfl, by omega⟩]
              · rw [if_neg (by omega), f9 _ _ (by unfold scP; have := o56 49 (by omega); omega), fK _ _ (by omega), hJ w2 hw2 h02 v hv2 g2 hg2]
                unfold Gp
                by_cases c1 : w2 < w ∨ w2 = w ∧ g2 < g
                · rw [if_pos c1, if_pos (by omega)]
                · rw [if_neg c1]
                  by_cases c2 : w2 = w ∧ g2 = g
                  · rw [if_pos (by omega), Gs, if_neg (fun q => c (by rw [c2.1, c2.2, ← q.2.1, c2.1]))]
                  · rw [if_neg (by omega)]
            show if b01 (wonM a lw k r w g) = 0 then _ else _
            cases hv9 : wonM a lw k r w g with
            | false => exact it rfl (b125 0 (by rw [hv9]; rfl))
            | true => exact ie (by decide) (b125 1 (by rw [hv9]; rfl))
        exact inner (aq a + 1) 0 I (by omega) f hg
      · rw [nI_1]
        have := ih (w + 1) I (by omega) f (fun w2 hw2 h02 v hv g2 hg2 => ?_)
        · rw [bsv_s, if_neg h0] at this; exact this
        · rw [hg w2 hw2 h02 v hv g2 hg2]
          unfold Gp
          have : w2 ≠ w := fun q => h0 (by rw [← q]; exact h02)
          by_cases c1 : w2 < w
          · rw [if_pos (by omega), if_pos (by omega)]
          · rw [if_neg (by omega), if_neg (by omega)]
  unfold Men_noteGains
  refine menWon_k (r := 50) (h := hat a r) (g := gs a (hat a r)) (lw := lw) (k := k) W N0 h51 h52 hl gl9 e4 e5 l3 k8 ?_
  have hG0 : gnI I0 a (Gp a h lw k r 0 0) := fun w hw h0 v hv g hg => by rw [hG w hw h0 v hv g hg]; unfold Gp; rw [if_neg (by omega)]
  have m0 := main (an a) 0 I0 (by omega) Fr.rf hG0
  show if b01 (won9 a lw k r) = 0 then _ else _
  cases hv9 : won9 a lw k r with
  | false => rw [hv9] at m0; exact it rfl ⟨_, m0⟩
  | true => rw [hv9] at m0; exact ie (by decide) ⟨_, m0⟩
