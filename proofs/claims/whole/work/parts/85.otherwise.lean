/-! otherwise -/
theorem WF.w {a : AN} (W : WF a) : WFw a := by
  obtain ⟨w1, w2, w3, w4, w5, w6⟩ := W
  refine ⟨w1, w2, w3, w4, w5, fun w hw => ?_⟩
  obtain ⟨g1, g2, g3, g4, g5⟩ := w6 w hw
  refine ⟨g1, g2, g3, ?_, g5⟩
  rcases g4 with g4 | g4
  · exact Or.inl g4
  · by_cases h : avw a w ≤ 1024
    · rw [if_pos h] at g4; exact Or.inr (Or.inl ⟨g4, h⟩)
    · rw [if_neg h] at g4; exact Or.inr (Or.inr g4)
/-- the same net with another kind of rule for w -/
def aKd (b : AN) (w kd : Nat) : AN := (an b, aq b, alk b, ard b, upn (akd b) w kd, atb b, acd b)
theorem evs_k {b : AN} {w kd : Nat} {h g : Nat → Nat} {k : Nat} : ∀ (c : AC) (s : List Int32), evs (aKd b w kd) h g k c s = evs b h g k c s
  | [], _ => rfl
  | (_, _) :: r, _ => evs_k r _
theorem gues_eq {a b : AN} {h g : Nat → Nat} {k : Nat} (e1 : akd a k = akd b k) (e2 : atb a k = atb b k) (e3 : acd a k = acd b k) (e4 : aq a = aq b) (e5 : view a h g k = view b h g k) (e6 : ∀ c, ev a h g k c = ev b h g k c) : gues a h g k = gues b h g k := by
  unfold gues
  rw [e1, e2, e3, e4, e5]
  simp only [e6]
theorem gues_kd {b : AN} {w kd : Nat} {h g : Nat → Nat} (hk : kd = 1 ∧ akd b w = 1 ∨ kd = 2 ∧ (akd b w = 2 ∨ akd b w = 0 ∧ ∀ v, atb b w v = 0)) (k : Nat) : gues (aKd b w kd) h g k = gues b h g k := by
  have ee : ∀ c, ev (aKd b w kd) h g k c = ev b h g k c := fun c => by unfold ev; rw [evs_k]
  by_cases e : k = w
  · subst e
    have e1 : akd (aKd b k kd) k = kd := upn_same _ _ _
    rcases hk with ⟨h1, h2⟩ | ⟨h1, h2⟩
    · exact gues_eq (e1.trans (h1.trans h2.symm)) rfl rfl rfl rfl ee
    · have z1 : gues (aKd b k kd) h g k = 0 := by unfold gues; rw [if_pos (e1.trans h1)]
      have z2 : gues b h g k = 0 := by
        unfold gues
        rcases h2 with h2 | ⟨h2, h3⟩
        · rw [if_pos h2]
        · rw [if_neg (by omega), if_pos h2, h3]
      rw [z1, z2]
  · exact gues_eq (upn_ne _ _ e) rfl rfl rfl rfl ee
theorem gl_kd {b c : AN} {h : Nat → Nat} (er : ard c = ard b) (eg : ∀ g k, gues c h g k = gues b h g k) : ∀ ρ, gl c h ρ = gl b h ρ
  | 0 => rfl
  | ρ + 1 => by
    funext k
    show (if ard c k = ρ then gues c h (gl c h ρ) k else gl c h ρ k) = (if ard b k = ρ then gues b h (gl b h ρ) k else gl b h ρ k)
    rw [er, gl_kd er eg ρ, eg]
theorem rt_kd {b : AN} {w kd : Nat} (hk : kd = 1 ∧ akd b w = 1 ∨ kd = 2 ∧ (akd b w = 2 ∨ akd b w = 0 ∧ ∀ v, atb b w v = 0)) (r : Nat) : rt (aKd b w kd) r = rt b r ∧ wr (aKd b w kd) r = wr b r := by
  have eg : ∀ h, gs (aKd b w kd) h = gs b h := fun h => by
    funext k
    unfold gs
    rw [gl_kd (b := b) (c := aKd b w kd) rfl (fun g k => gues_kd hk k)]
  have eh : hat (aKd b w kd) r = hat b r := rfl
  unfold rt wr
  rw [eh, eg]
  exact ⟨rfl, rfl⟩
/-- the class's trial net leaves all else -/
theorem InvB.oth {own h : Nat → Nat} {a : AN} {ro : Nat} {I I' : HI} {T T' F : HR} {L : HL} {IM IM' : HI} (B : InvB own h a ro I T F L IM) (f : Fr (fun b _ => 10 ≤ b ∧ b ≤ 18 ∨ b = 21 ∨ b = 22 ∨ b = 25 ∨ own b = 3) I I') (h17 : ∀ i, i < 8192 → byt (I' 17 i)) (ft : ∀ b i, b ≠ 16 → T' b i = T b i) (fm : Fr (fun b i => (17 ≤ b ∧ b ≤ 22) ∨ b = 0 ∧ (i = 0 ∨ i = 40)) IM IM') (hw : WorI a IM') : InvB own h a ro I' T' F L IM' := by
  obtain ⟨b1, b2, b3, b4, b5, b6, b7⟩ := B
  have nz := nz_own b7.1
  have o56 := b7.1.1
  have g : ∀ b i, b < 56 → ¬ (10 ≤ b ∧ b ≤ 18 ∨ b = 21 ∨ b = 22 ∨ b = 25) → I' b i = I b i := fun b i h1 h2 => f b i (by have := o56 b h1; omega)
  have g2 : ∀ b i, own b = 2 ∨ 4 ≤ own b → I' b i = I b i := fun b i hb => f b i (by have := nz b; omega)
  obtain ⟨r1, r2, r3, r4, r5, r6, r7, r8, r9, r10⟩ := b7
  refine ⟨b1, b2.eq (fun b i hb => fm _ _ (by omega)), b3.eq (fun j i hj => g _ _ (by omega) (by omega)), b4.fr (fun b i hb => g2 _ _ (Or.inl hb)) (fun w _ => ft _ _ (by omega)) b1.2.1 Ext.rf, hw, b6.eq (fun b i hb => g _ _ (by omega) (by omega)), r1, r2, h17, r4.eq (fun b i hb => g _ _ (by omega) (by omega)) (fun b i hb => fm _ _ (by omega)), r5.eq (fun b i hb => g _ _ (by omega) (by omega)) (fun b i hb => fm _ _ (by omega)), ?_, ?_, r8.eq (fun b i hb => g _ _ (by omega) (by omega)) (fun b i hb => fm _ _ (by omega)), r9.eq (fun b i hb => g _ _ (by omega) (by omega)) (fun b i hb => fm _ _ (by omega)), fun s hs => (r10 s hs).fr2 g2 (fun b i hb => ft _ _ ?_) Ext.rf (fun b i hb => fm _ _ (by omega))⟩
  · rw [g _ _ (by omega) (by omega), fm _ _ (by omega)]; exact r6
  · rw [g _ _ (by omega) (by omega), fm _ _ (by omega)]; exact r7
  · have := nz b; omega
abbrev othN (b : AN) (h : Nat → Nat) (lw k : Nat) : Nat → Nat := cnt (fun r => cts b h r && won9 b lw k r)
theorem oth_m {b : AN} {h : Nat → Nat} {lw k w at_ : Nat} {x3 : Int32} {I : HI} (W : WF b) (e1 : I 0 1 = nI (an b)) (e2 : I 0 2 = nI (aq b)) (e3 : I 0 3 = nI (aq b ^ an b)) (hd : ∀ r, r < aq b ^ an b → I 20 r = nI (rt b r) ∧ I 21 r = nI (wr b r)) (hH : ∀ c, c < 4 → I 1 c = nI (h c) ∧ h c ≤ 9) (e4 : I 0 4 = nI lw) (e5 : I 0 5 = nI k) (l3 : lw ≤ 3) (k8 : k ≤ 8) (hw : w < 8) {Q : Int32 → HI → Prop} (hq : Q (nI (othN b h lw k (aq b ^ an b))) (up2 (up2 (up2 I 2 w ((I 2 w) ^^^ ((1 : Int32) <<< (nI at_ &&& 31)))) 4 w x3) 0 40 0)) : ∀ d r, r + d = aq b ^ an b → M_otherwise_l92 I (nI w) (nI at_) x3 Q (d + 1) (nI (othN b h lw k r)) (nI r) := by
  have r5 := W.2.2.2.2.1
  intro d
  induction d with
  | zero =>
    intro r hr
    have : r = aq b ^ an b := by omega
    subst this
    rw [M_otherwise_l92, e3, nx_nI (by omega)]
    have v : vp_in (nI w) 8 := vin hw (by omega)
    exact it (nI_le (Nat.le_refl _) (by omega)) ⟨v, v, v, hq⟩
  | succ d ih =>
    intro r hr
    have ih := ih (r + 1) (by omega)
    rw [othN, cnt_succ] at ih
    rw [M_otherwise_l92, e3]
    refine ie (nI_ge (by omega) (by omega)) (M_counts_k W e1 e2 hH (by omega) ?_)
    rw [nx_nI (by omega), (hd r (by omega)).1, (hd r (by omega)).2]
    simp only [nI_1]
    cases hc : cts b h r with
    | false => rw [hc, if_neg (by simp)] at ih; exact it rfl ih
    | true =>
      refine ie (by decide) ⟨vin (by omega) (by omega), vin (by omega) (by omega), M_isWon_k e4 e5 e1 l3 k8 W.2.1 (rt_lt b r) (wr_lt b r) ?_⟩
      show if b01 (won9 b lw k r) = 0 then _ else _
      cases hv : won9 b lw k r with
      | false => rw [hv, if_neg (by simp)] at ih; exact it rfl ih
      | true => rw [hc, hv, if_pos (by simp)] at ih; exact ie (by decide) ih
theorem oth_c {own h : Nat → Nat} {b : AN} {lw k : Nat} {T F : HR} {L : HL} {I0 : HI} (W : WF b) (N : CN I0 10 b) (C : CT I0 T F L own 10 b) (o56 : ∀ x, x < 56 → own x = 0) (hH : ∀ c, c < 4 → I0 24 c = nI (h c) ∧ h c ≤ 9) (e4 : I0 23 1 = nI lw) (e5 : I0 23 2 = nI k) (l3 : lw ≤ 3) (k8 : k ≤ 8) {Q : Int32 → HI → HR → Prop} {Xc : HI → HR → Prop} (hQ : ∀ I, Fr (fun x _ => x = 21 ∨ x = 22 ∨ x = 25 ∨ own x = 3) I0 I → Q (nI (othN b h lw k (aq b ^ an b))) I T) : ∀ d r I, r + d = aq b ^ an b → Fr (fun x _ => x = 21 ∨ x = 22 ∨ x = 25 ∨ own x = 3) I0 I → H_otherwise_l54 T F L Q Xc (d + 1) I (nI (othN b h lw k r)) (nI r) := by
  have r5 := W.2.2.2.2.1
  have n8 := W.2.1
  have q2 := W.2.2.1
  have q4 := W.2.2.2.1
  have lo : ∀ (I I' : HI), Fr (fun x _ => x = 21 ∨ x = 22 ∨ x = 25 ∨ own x = 3) I I' → ∀ x i, x < 56 → x ≠ 21 → x ≠ 22 → x ≠ 25 → I' x i = I x i := fun I I' f x i h1 h2 h3 h4 => f x i (by have := o56 x h1; omega)
  intro d
  induction d with
  | zero =>
    intro r I hr f
    have : r = aq b ^ an b := by omega
    subst this
    rw [H_otherwise_l54, lo _ _ f 10 2 (by omega) (by omega) (by omega) (by omega), N.2.2.1]
    exact it (nI_le (Nat.le_refl _) (by omega)) (hQ I f)
  | succ d ih =>
    intro r I hr f
    have ih := ih (r + 1)
    have N1 : CN I 10 b := N.eq (fun j i hj => lo _ _ f _ _ (by omega) (by omega) (by omega) (by omega))
    rw [H_otherwise_l54, N1.2.2.1]
    refine ie (nI_ge (by omega) (by omega)) (Sc_dress_k N1.1 N1.2.1 (by omega) n8 q2 q4 (by omega) (fun I8 f8 hh => ?_))
    have hh : ∀ w, w < an b → I8 21 w = nI (hat b r w) := hh
    have g8 : Fr (fun x _ => x = 21 ∨ x = 22 ∨ x = 25 ∨ own x = 3) I0 I8 := f.tr (f8.mono (fun x i hx => by omega))
    have N8 : CN I8 10 b := N.eq (fun j i hj => lo _ _ g8 _ _ (by omega) (by omega) (by omega) (by omega))
    rw [N8.1]
    refine weigh_pos (H := h) W (fun c hc => ⟨(lo _ _ g8 _ _ (by omega) (by omega) (by omega) (by omega)).trans (hH c hc).1, (hH c hc).2⟩) (by omega) hh (fun I11 z f11 hz => ?_)
    have g11 : Fr (fun x _ => x = 21 ∨ x = 22 ∨ x = 25 ∨ own x = 3) I0 I11 := g8.tr (f11.mono (fun x i hx => by omega))
    simp only [nI_1]
    refine ic (fun hc => ?_) (fun hc => ?_)
    · rw [hz] at hc
      have ih := ih I11 (by omega) g11
      rw [othN, cnt_succ, hc, if_neg (by simp)] at ih
      exact ih
    · rw [hz] at hc
      have hc : cts b h r = true := by cases e : cts b h r; exact absurd e hc; rfl
      have N11 : CN I11 10 b := N.eq (fun j i hj => lo _ _ g11 _ _ (by omega) (by omega) (by omega) (by omega))
      have C11 : CT I11 T F L own 10 b := C.fr (fun x i hx => g11 _ _ (by have := o56 x; omega)) (fun _ _ => rfl) n8 Ext.rf
      have hh11 : ∀ w, w < an b → I11 21 w = nI (hat b r w) := fun w hw => (f11 _ _ (by omega)).trans (hh w hw)
      refine Sc_guessAll_k W N11 C11 hh11 ⟨by rw [o56 21 (by omega)]; decide, o56 22 (by omega)⟩ (fun j hj => by omega) (fun k _ => hat_lt W r k) (fun I13 f13 hg => ?_)
      have g13 : Fr (fun x _ => x = 21 ∨ x = 22 ∨ x = 25 ∨ own x = 3) I0 I13 := g11.tr (f13.mono (fun x i hx => by unfold scP at hx; omega))
      have N13 : CN I13 10 b := N.eq (fun j i hj => lo _ _ g13 _ _ (by omega) (by omega) (by omega) (by omega))
      have hh13 : ∀ w, w < an b → I13 21 w = nI (hat b r w) := fun w hw => (f13 _ _ (by have := o56 21 (by omega); unfold scP; omega)).trans (hh11 w hw)
      refine Sc_right_k W N13.1 hh13 hg (hat4 W) (gs4 W) (Sc_wrong_k W N13.1 N13.2.1 hh13 hg (hat4 W) (gs4 W) ?_)
      rw [N13.1]
      refine Jud_isWon_k (rm := rt b r) (wm := wr b r) (lw := lw) (k := k) ((lo _ _ g13 _ _ (by omega) (by omega) (by omega) (by omega)).trans e4) ((lo _ _ g13 _ _ (by omega) (by omega) (by omega) (by omega)).trans e5) l3 k8 n8 (rt_lt b r) (wr_lt b r) ?_
      have ih := ih I13 (by omega) g13
      rw [othN, cnt_succ] at ih
      show if b01 (won9 b lw k r) = 0 then _ else _
      cases hv : won9 b lw k r with
      | false =>
        rw [hv, if_neg (by simp)] at ih
        refine it rfl ?_
        rw [nlit0, nI_add]; exact ih
      | true => rw [hc, hv, if_pos (by simp)] at ih; exact ie (by decide) ih
theorem M_otherwise_k {IM : HI} {a : AN} {h : Nat → Nat} {lw k w at_ s : Nat} (W : WF a) (R : RepM IM a) (hw : w < an a) (ha : at_ < an a) (hne : w ≠ at_) (hs : s = alk a w ^^^ 2 ^ at_) (hH : ∀ c, c < 4 → IM 1 c = nI (h c) ∧ h c ≤ 9) (e4 : IM 0 4 = nI lw) (e5 : IM 0 5 = nI k) (l3 : lw ≤ 3) (k8 : k ≤ 8) (Wb : WF (aLook a w s)) (hsn : alk a w ≠ s) {Q : Int32 → HI → Prop} (hQ : ∀ IM', Fr (fun b i => (17 ≤ b ∧ b ≤ 22) ∨ b = 0 ∧ (i = 0 ∨ i = 40)) IM IM' → IM' 0 0 = 0 → IM' 0 40 = 0 → Q (nI (othN (aLook a w s) h lw k (aq a ^ an a))) IM') : M_otherwise IM (nI w) (nI at_) Q := by
  obtain ⟨w1, w2, w3, w4, w5, w6⟩ := id W
  have kd2 := W.kd hw
  have h256 := p2le w2
  have k0 := Fr0 IM 0
  unfold M_otherwise
  refine M_isWearer_y R.1.1 w2 hw (ie (by decide) (ie (nI_pos (by omega)) ?_))
  rw [k0 0 1 (by omega), R.1.1]
  refine ie (nI_ge (by omega) (by omega)) ?_
  unfold M_otherwise_b26
  refine M_right_y (up00 _ _) (ie (by decide) ?_)
  have vw8 : vp_in (nI w) 8 := vin (by omega) (by omega)
  refine ie (fun q => hne (by rw [nI_eq (by omega) (by omega)] at q; exact q)) ⟨vw8, vw8, vw8, ?_⟩
  rw [nx_nI (by omega), k0 2 w (by omega), k0 4 w (by omega), R.1.2.2.1 w hw, (R.2.2 w hw).1, nShl1 at_ (by omega), nXor, ← hs]
  generalize hb : aLook a w s = b at *
  have eb : b = abl (an a, aq a, upn (alk a) w s, ard a, akd a, atb a, acd a) w := by rw [← hb]; unfold aLook; rw [if_neg hsn]
  have bn : an b = an a := by rw [eb]; rfl
  have bq : aq b = aq a := by rw [eb]; rfl
  have bl : alk b = upn (alk a) w s := by rw [eb]; rfl
  have br : ard b = ard a := by rw [eb]; rfl
  have bk : ∀ j, j ≠ w → akd b j = akd a j := fun j hj => by rw [eb]; exact upn_ne _ _ hj
  have bt : ∀ j, j ≠ w → atb b j = atb a j := fun j hj => by rw [eb]; exact upn_ne _ _ hj
  have btw : atb b w = fun _ => 0 := by rw [eb]; exact upn_same _ _ _
  have bc : acd b = acd a := by rw [eb]; rfl
  have bkw : akd a w = 1 ↔ akd b w = 1 := by rw [eb, abl_1]
  have bv : ∀ j, j ≠ w → avw b j = avw a j := fun j hj => by show vw _ _ _ _ j = _; rw [bn, bq, bl, br, vw_lk hj]
  have main : ∀ kd : Nat, (kd = 1 ∧ akd b w = 1 ∨ kd = 2 ∧ (akd b w = 2 ∨ akd b w = 0 ∧ ∀ v, atb b w v = 0)) → M_otherwise_b76 (up2 (up2 IM 0 0 0) 2 w (nI s)) (nI w) (nI at_) (nI (akd a w)) (nI kd) (nI w) Q := by
    intro kd hk
    unfold M_otherwise_b76
    rw [nx_nI (by omega)]
    refine ⟨vw8, ?_⟩
    generalize hI6 : up2 (up2 (up2 (up2 IM 0 0 0) 2 w (nI s)) 4 w (nI kd)) 0 40 0 = I6
    have f6 : Fr (fun x i => x = 0 ∧ (i = 0 ∨ i = 40) ∨ (x = 2 ∨ x = 4) ∧ i = w) IM I6 := by
      rw [← hI6]; exact (((Fr.rf.up (by omega)).up (by omega)).up (by omega)).up (by omega)
    have g2 : I6 2 w = nI s := by rw [← hI6, up2_get, if_neg (by omega), up2_get, if_neg (by omega), up2_same]
    have g4 : I6 4 w = nI kd := by rw [← hI6, up2_get, if_neg (by omega), up2_same]
    have g00 : I6 0 0 = 0 := by rw [← hI6, up2_get, if_neg (by omega), up2_get, if_neg (by omega), up2_get, if_neg (by omega), up2_same]
    have W2 : WFw (aKd b w kd) := by
      obtain ⟨u1, u2, u3, u4, u5, u6⟩ := Wb.w
      refine ⟨u1, u2, u3, u4, u5, fun j hj => ?_⟩
      obtain ⟨p1, p2, p3, p4, p5⟩ := u6 j hj
      refine ⟨p1, p2, p3, ?_, ?_⟩
      · show upn (akd b) w kd j = 1 ∧ _ ∨ upn (akd b) w kd j = 0 ∧ avw b j ≤ 1024 ∨ upn (akd b) w kd j = 2
        by_cases e : j = w
        · subst e
          rw [upn_same]
          rcases hk with ⟨h1, h2⟩ | ⟨h1, h2⟩
          · left
            refine ⟨h1, ?_⟩
            rcases p4 with q | q
            · exact q.2
            · omega
          · right; right; exact h1
        · rw [upn_ne _ _ e]; exact p4
      · show upn (akd b) w kd j = 0 → _
        by_cases e : j = w
        · subst e; rw [upn_same]; intro q; omega
        · rw [upn_ne _ _ e]; exact p5
    have R2 : RepM I6 (aKd b w kd) := by
      refine ⟨⟨?_, ?_, fun j hj => ?_, fun j hj => ?_, W2.1, W2.2.1, W2.2.2.1, W2.2.2.2.1, fun j hj => (W2.2.2.2.2.2 j hj).1, fun j hj => (W2.2.2.2.2.2 j hj).2.2.1⟩, ?_, fun j hj => ?_⟩
      · show I6 0 1 = nI (an b)
        rw [bn, f6 _ _ (by omega)]; exact R.1.1
      · show I6 0 2 = nI (aq b)
        rw [bq, f6 _ _ (by omega)]; exact R.1.2.1
      · have hj : j < an b := hj
        show I6 2 j = nI (alk b j)
        rw [bl]
        by_cases e : j = w
        · subst e; rw [upn_same]; exact g2
        · rw [upn_ne _ _ e, f6 _ _ (by omega)]; exact R.1.2.2.1 j (by omega)
      · have hj : j < an b := hj
        show I6 3 j = nI (ard b j)
        rw [br, f6 _ _ (by omega)]; exact R.1.2.2.2.1 j (by omega)
      · show I6 0 3 = nI (aq b ^ an b)
        rw [bq, bn, f6 _ _ (by omega)]; exact R.2.1
      · have hj : j < an b := hj
        obtain ⟨r1, r2, r3⟩ := R.2.2 j (by omega)
        show I6 4 j = nI (upn (akd b) w kd j) ∧ (upn (akd b) w kd j = 0 → ∀ v, v < avw b j → I6 5 (1024 * j + v) = nI (atb b j v)) ∧ (upn (akd b) w kd j = 1 → mcd I6 j (acd b j))
        rw [bc]
        have tx : mcd IM j (acd a j) → mcd I6 j (acd a j) := by
          rintro ⟨t, t1, t2, t3, t4⟩
          refine ⟨t, (f6 _ _ (by omega)).trans t1, mco_eq (fun k => f6 _ _ (by omega)) _ _ t2, t3, ?_⟩
          cases hc1 : (acd a j).1 with
          | none => rw [hc1] at t4; exact (f6 _ _ (by omega)).trans t4
          | some p => rw [hc1] at t4; exact ⟨(f6 _ _ (by omega)).trans t4.1, mco_eq (fun k => f6 _ _ (by omega)) _ _ t4.2.1, t4.2.2⟩
        by_cases e : j = w
        · subst e
          rw [upn_same]
          refine ⟨g4, fun q => by omega, fun q => tx (r3 (bkw.mpr ?_))⟩
          omega
        · rw [upn_ne _ _ e, bk j e, bt j e, bv j e]
          exact ⟨(f6 _ _ (by omega)).trans r1, fun q v hv => (f6 _ _ (by omega)).trans (r2 q v hv), fun q => tx (r3 q)⟩
    refine M_worksAll_kw W2 R2 (Or.inl (by rw [← hI6]; exact up2_same _ _ _ _)) (fun I7 f7 R7 e40 hd => ?_)
    have fz : Fr (fun x i => (17 ≤ x ∧ x ≤ 22) ∨ x = 0 ∧ (i = 0 ∨ i = 40) ∨ (x = 2 ∨ x = 4) ∧ i = w) IM I7 := (f6.mono (fun x i hx => by omega)).tr (f7.mono (fun x i hx => by unfold waP at hx; omega))
    refine ⟨aq b ^ an b + 1, oth_m (b := b) (h := h) (lw := lw) (k := k) Wb R7.1.1 R7.1.2.1 R7.2.1 (fun r hr => ?_) (fun c hc => ⟨(fz _ _ (by omega)).trans (hH c hc).1, (hH c hc).2⟩) ((fz _ _ (by omega)).trans e4) ((fz _ _ (by omega)).trans e5) l3 k8 (by omega) ?_ _ 0 (by omega)⟩
    · obtain ⟨d1, d2, -⟩ := hd r hr
      rw [(rt_kd hk r).1] at d1
      rw [(rt_kd hk r).2] at d2
      exact ⟨d1, d2⟩
    · rw [bq, bn]
      have i2 : I7 2 w = nI s := (f7 _ _ (by unfold waP; omega)).trans g2
      rw [i2, nShl1 at_ (by omega), nXor, hs, Nat.xor_assoc, Nat.xor_self, Nat.xor_zero]
      refine hQ _ (fun x i hn => ?_) ?_ (up2_same _ _ _ _)
      · rw [up2_get, if_neg (by omega), up2_get]
        by_cases q4 : x = 4 ∧ i = w
        · rw [if_pos q4, q4.1, q4.2]; exact (R.2.2 w hw).1.symm
        · rw [if_neg q4, up2_get]
          by_cases q2 : x = 2 ∧ i = w
          · rw [if_pos q2, q2.1, q2.2]; exact (R.1.2.2.1 w hw).symm
          · rw [if_neg q2]; exact fz _ _ (by omega)
      · rw [up2_get, if_neg (by omega), up2_get, if_neg (by omega), up2_get, if_neg (by omega)]
        exact (f7 _ _ (by unfold waP; omega)).trans g00
  refine ic (fun hc => ?_) (fun hc => ?_)
  · rw [nlit1, nI_eq (by omega) (by omega)] at hc
    exact main 1 (Or.inl ⟨rfl, bkw.mp hc⟩)
  · rw [nlit1, nI_eq (by omega) (by omega)] at hc
    have hkb := Wb.kd (w := w) (by rw [bn]; exact hw)
    have : akd b w ≠ 1 := fun q => hc (bkw.mpr q)
    refine main 2 (Or.inr ⟨rfl, ?_⟩)
    by_cases q : akd b w = 2
    · exact Or.inl q
    · exact Or.inr ⟨by omega, fun v => by rw [btw]⟩
theorem st_otherwise {ro : Nat} {x1 x2 : Int32} {I : HI} {J : HJ} {T F : HR} {L : HL} {IM : HI} {JM : HJ} (hI : Inv ro (I, J, T, F, L) IM JM) : St_otherwise x1 x2 I J T F L ro IM JM (Inv ro) := by
  obtain ⟨own, h, a, B⟩ := Inv_el hI
  have B0 := B
  obtain ⟨W, R, N, C, b5, b6, b7⟩ := B
  have hro := b7.1.2.2.2.1
  have o56 := b7.1.1
  have n8 := W.2.1
  have h256 := p2le n8
  obtain ⟨j1, lw, k9, j2, j3, j4, j5, j6, j7⟩ := b7.2.2.2.1
  unfold St_otherwise L_otherwise H_otherwise
  rcases wcase x1 (an a) (by omega) with ⟨w, hw, rfl⟩ | hx
  · refine H_need_y N.1 n8 hw ?_
    rcases wcase x2 (an a) (by omega) with ⟨at_, ha, rfl⟩ | hx2
    · refine H_need_y N.1 n8 ha ?_
      by_cases e : w = at_
      · subst e
        refine it rfl ⟨hro, ?_⟩
        unfold M_otherwise
        refine M_isWearer_y R.1.1 n8 hw (ie (by decide) (ie (nI_pos (by omega)) ?_))
        rw [Fr0 IM 0 0 1 (by omega), R.1.1]
        refine ie (nI_ge (by omega) (by omega)) ?_
        unfold M_otherwise_b26
        exact M_right_y (up00 _ _) (ie (by decide) (it rfl (fin_ok B0 (Fr0 IM 0) (up00 _ _) rfl)))
      · have hlw := (W.2.2.2.2.2 w hw).1
        have hlb := (W.2.2.2.2.2 w hw).2.1
        obtain ⟨s, hs⟩ : ∃ s, s = alk a w ^^^ 2 ^ at_ := ⟨_, rfl⟩
        have hsl : s < 2 ^ an a := by rw [hs]; exact Nat.xor_lt_two_pow hlw (Nat.pow_lt_pow_right (by decide) ha)
        have hsb : s.testBit w = false := by rw [hs, Nat.testBit_xor, hlb, Nat.testBit_two_pow]; simp; omega
        have hsn : alk a w ≠ s := by
          intro q
          have h1 : (alk a w).testBit at_ = s.testBit at_ := by rw [← q]
          rw [hs, Nat.testBit_xor, Nat.testBit_two_pow] at h1
          simp at h1
        have Wb := aLook_WF W hw hsl hsb
        refine ie (fun q => e (by rw [nI_eq (by omega) (by omega)] at q; exact q)) (Net_copy_k W N C b7.2.2.1 (by unfold apart; omega) (fun I3 T4 f3 N3 t1 t2 => ⟨vin (by omega) (by omega), ?_⟩))
        have C3 : CT I3 T4 F L own 10 a := CT_copy C n8 (fun j hj => by rw [o56 _ (by omega)]; decide) (fun b i hb => f3 _ _ (by have := o56 b; unfold nP; omega)) t1 Ext.rf
        rw [nx_nI (by omega), N3.2.2.2.1 w hw, nShl1 at_ (by omega), nXor, ← hs]
        refine Net_lookAt_k W N3 C3 hw hsl (fun I6 f6 N6 C6 => ?_)
        have f36 : Fr (nP 10) I I6 := f3.tr f6
        have lo : ∀ x i, x < 10 ∨ 18 < x → I6 x i = I x i := fun x i hx => f36 x i (by unfold nP; omega)
        have lon : an (aLook a w s) = an a := by unfold aLook; rw [if_neg hsn]; rfl
        have loq : aq (aLook a w s) = aq a := by unfold aLook; rw [if_neg hsn]; rfl
        refine ⟨aq (aLook a w s) ^ an (aLook a w s) + 1, oth_c (own := own) (h := h) (lw := lw) (k := k9) Wb N6 C6 o56 (fun c hc => ⟨(lo _ _ (by omega)).trans (j1 c hc).1, (j1 c hc).2.2⟩) ((lo _ _ (by omega)).trans j2) ((lo _ _ (by omega)).trans j5) j4 j7 (fun I9 f9 => ⟨hro, ?_⟩) _ 0 I6 (by omega) Fr.rf⟩
        rw [lon, loq]
        refine M_otherwise_k (h := h) (lw := lw) (k := k9) W R hw ha e hs (fun c hc => ⟨(j1 c hc).2.1, (j1 c hc).2.2⟩) j3 j6 j4 j7 Wb hsn (fun IM' fm h0 h40 => fin_ok2 (B0.oth (I' := I9) (T' := T4) (IM' := IM') (((f36.mono (fun x i hx => by unfold nP at hx; omega)).tr (f9.mono (fun x i hx => by omega)))) (fun i hi => ?_) (fun b i hb => t2 _ _ (by omega)) fm (Or.inl h40)) h0 rfl)
        rw [f9 _ _ (by have := o56 17 (by omega); omega)]; exact N6.2.2.2.2.2.2.2.2.1 i hi
    · refine H_need_n N.1 hx2 ⟨hro, ?_⟩
      unfold M_otherwise M_otherwise_b25 M_otherwise_b26
      refine M_isWearer_y R.1.1 n8 hw (ie (by decide) ?_)
      rw [Fr0 IM 0 0 1 (by omega), R.1.1]
      rcases hx2 with h0 | ⟨h0, h9⟩
      · exact it h0 (M_right_n (up00 _ _) (it rfl (fin_no B0 (Fr01 IM) (up00' _))))
      · exact ie h0 (it h9 (M_right_n (up00 _ _) (it rfl (fin_no B0 (Fr01 IM) (up00' _)))))
  · refine H_need_n N.1 hx ⟨hro, ?_⟩
    unfold M_otherwise
    exact M_isWearer_n R.1.1 hx (it rfl (fin_no B0 (Fr01 IM) (up00' _)))
