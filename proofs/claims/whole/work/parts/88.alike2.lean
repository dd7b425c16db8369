/-! alike: how many -/
def alB (a : AN) (l : List Nat) : Bool := decide (∀ i, i < an a → ard a (l.getD i 0) = ard a i ∧ ∀ j, j < an a → (alk a (l.getD i 0)).testBit (l.getD j 0) = (alk a i).testBit j)
theorem alB_iff {a : AN} {l : List Nat} : alB a l = true ↔ alP a (fun i => l.getD i 0) := by
  unfold alB alP
  exact decide_eq_true_iff
theorem alike_43 {a : AN} (W : WF a) {I0 : HI} (R0 : RepM I0 a) {Q : Int32 → HI → Prop} : ∀ e l v I, endL (an a) e l = true → Fr (fun b _ => b = 23) I0 I → (∀ k, k < an a → I 23 k = nI (l.getD k 0)) → (∀ k, k < an a → l.getD k 0 < an a) → (∀ I', Fr (fun b _ => b = 23) I0 I' → Q (nI (v + (itL (an a) e l).countP (alB a))) I') → M_alike_l43 Q (e + 1) I (nI v) 1
  | 0, l, v, I, he, _, _, _, _ => by unfold endL at he; cases he
  | e + 1, l, v, I, he, f, h, hp, hQ => by
    have n1 := W.1
    have n8 := W.2.1
    have R : RepM I a := R0.eq (fun b i hb => f _ _ (by omega))
    rw [M_alike_l43]
    refine ie (by decide) (M_isAlike_k W R h hp (fun b hb => ?_))
    rw [← alB_iff] at hb
    have eb : b = alB a l := by
      cases e1 : alB a l with
      | true => exact hb.mpr e1
      | false => cases b with
        | false => rfl
        | true => rw [hb.mp rfl] at e1; cases e1
    rw [eb]
    unfold itL at hQ
    unfold endL at he
    have step : ∀ u, (∀ I', Fr (fun b _ => b = 23) I0 I' → Q (nI (u + (match nxL (an a) l with | none => [] | some l' => itL (an a) e l').countP (alB a))) I') → M_turns I (fun r3 I4 => M_alike_l43 Q (e + 1) I4 (nI u) r3) := by
      intro u hu
      refine M_turns_k n8 n1 R.1.1 h hp (fun q => ?_) (fun p' I' q f' h' b' => ?_)
      · have : nxL (an a) l = none := by unfold nxL; rw [q]; rfl
        rw [this] at hu
        rw [M_alike_l43]
        exact it rfl (hu I f)
      · have : nxL (an a) l = some (toL (an a) p') := by unfold nxL; rw [q]; rfl
        rw [this] at hu he
        exact alike_43 W R0 e (toL (an a) p') u I' he (f.tr f') (fun k hk => by rw [toL_get hk]; exact h' k hk) (fun k hk => by rw [toL_get hk]; exact b' k hk) hu
    rw [List.countP_cons] at hQ
    cases e1 : alB a l with
    | false =>
      refine it rfl (step v (fun I' f' => ?_))
      have := hQ I' f'
      rw [e1] at this
      exact this
    | true =>
      refine ie (by decide) ?_
      rw [nI_1]
      refine step (v + 1) (fun I' f' => ?_)
      have := hQ I' f'
      rw [e1] at this
      rw [Nat.add_right_comm, Nat.add_assoc]
      exact this
theorem M_alike_k {IM : HI} {a : AN} (W : WF a) (R : RepM IM a) (n6 : an a ≤ 6) {Q : Int32 → HI → Prop} (hQ : ∀ I', Fr (fun b i => b = 23 ∨ b = 0 ∧ i = 0) IM I' → Q (nI ((exL (an a) (an a) 0 (fun _ => 0)).countP (alB a))) I') : M_alike IM Q := by
  have n1 := W.1
  obtain ⟨k1, k2⟩ := itL_k (an a) (by omega) n1
  rw [← k1] at hQ
  have R0 : RepM (up2 IM 0 0 0) a := R.eq (fun b i hb => Fr0 IM 0 _ _ (by omega))
  have rg : ∀ k, k < an a → (List.range (an a)).getD k 0 = k := fun k hk => by
    rw [List.getD_eq_getElem?_getD, List.getElem?_range hk]; rfl
  unfold M_alike
  rw [R0.1.1]
  refine it (nI_le (b := 6) n6 (by omega)) ⟨an a + 1, ?_⟩
  have key : ∀ d i I, i + d = an a → Fr (fun b _ => b = 23) (up2 IM 0 0 0) I → (∀ k, k < i → I 23 k = nI k) → M_alike_l18 Q (d + 1) I (nI i) := by
    intro d
    induction d with
    | zero =>
      intro i I hi f h
      rw [M_alike_l18, f _ _ (by omega), R0.1.1]
      refine it (nI_le (by omega) (by omega)) ⟨720 + 1, ?_⟩
      have R1 : RepM I a := R0.eq (fun b i hb => f _ _ (by omega))
      refine alike_43 W R1 720 (List.range (an a)) 0 I k2 Fr.rf (fun k hk => by rw [rg k hk]; exact h k (by omega)) (fun k hk => by rw [rg k hk]; exact hk) (fun I' f' => ?_)
      rw [Nat.zero_add]
      exact hQ I' (((Fr0 IM 0).mono (fun b i hb => Or.inr hb)).tr ((f.tr f').mono (fun b i hb => Or.inl hb)))
    | succ d ih =>
      intro i I hi f h
      rw [M_alike_l18, f _ _ (by omega), R0.1.1, nx_nI (by omega), nI_1]
      refine ie (nI_ge (by omega) (by omega)) ⟨vin (by omega) (by omega), ih (i + 1) _ (by omega) (f.up rfl) (fun k hk => ?_)⟩
      rw [up2_get]
      by_cases e : k = i
      · rw [if_pos ⟨rfl, e⟩, e]
      · rw [if_neg (by omega)]; exact h k (by omega)
  exact key (an a) 0 _ (by omega) Fr.rf (fun k hk => by omega)
/-! the class's count -/
def okP (a : AN) (w : Nat) (p : Nat → Nat) : Prop := ∀ i, i < w → ard a (p i) = ard a i ∧ ∀ j, j < i → (alk a (p i)).testBit (p j) = (alk a i).testBit j ∧ (alk a (p j)).testBit (p i) = (alk a j).testBit i
def suP (a : AN) (w x : Nat) (p : Nat → Nat) : Prop := ard a w = ard a x ∧ ∀ j, j < w → (alk a w).testBit j = (alk a x).testBit (p j) ∧ (alk a j).testBit w = (alk a (p j)).testBit x
theorem okP_upn {a : AN} {w x : Nat} {p : Nat → Nat} : okP a (w + 1) (upn p w x) ↔ okP a w p ∧ suP a w x p := by
  have e : ∀ j, j < w → upn p w x j = p j := fun j hj => upn_ne _ _ (by omega)
  constructor
  · intro h
    refine ⟨fun i hi => ?_, ?_⟩
    · obtain ⟨h1, h2⟩ := h i (by omega)
      rw [e i hi] at h1
      refine ⟨h1, fun j hj => ?_⟩
      have := h2 j hj
      rw [e i hi, e j (by omega)] at this
      exact this
    · obtain ⟨h1, h2⟩ := h w (by omega)
      rw [upn_same] at h1
      refine ⟨h1.symm, fun j hj => ?_⟩
      have := h2 j hj
      rw [upn_same, e j hj] at this
      exact ⟨this.1.symm, this.2.symm⟩
  · rintro ⟨h1, h2⟩ i hi
    by_cases ei : i = w
    · subst ei
      rw [upn_same]
      refine ⟨h2.1.symm, fun j hj => ?_⟩
      rw [e j hj]
      exact ⟨(h2.2 j hj).1.symm, (h2.2 j hj).2.symm⟩
    · rw [e i (by omega)]
      refine ⟨(h1 i (by omega)).1, fun j hj => ?_⟩
      rw [e j (by omega)]
      exact (h1 i (by omega)).2 j hj
def cN (a : AN) (n : Nat) : Nat → Nat → (Nat → Nat) → Nat
  | 0, _, p => if alB a (toL n p) then 1 else 0
  | d + 1, w, p => cum (fun x v => v + (if usd p w x then 0 else cN a n d (w + 1) (upn p w x))) 0 n
theorem cnt_fm {f : Nat → List (List Nat)} {P : List Nat → Bool} : ∀ m, ((List.range m).flatMap f).countP P = cum (fun x v => v + (f x).countP P) 0 m
  | 0 => rfl
  | m + 1 => by
    rw [List.range_succ, List.flatMap_append, List.countP_append, cnt_fm m, cum]
    simp
theorem cN_ex {a : AN} {n : Nat} : ∀ d w p, cN a n d w p = (exL n d w p).countP (alB a)
  | 0, _, p => by
    unfold cN exL
    rw [List.countP_cons, List.countP_nil]
    simp
  | d + 1, w, p => by
    unfold cN exL
    rw [cnt_fm]
    refine cum_cong n (fun x _ v => ?_)
    by_cases h : usd p w x = true
    · rw [if_pos h, if_pos h]; rfl
    · rw [if_neg h, if_neg h, cN_ex d]
theorem alP_ok {a : AN} {p : Nat → Nat} (h : alP a p) : okP a (an a) p := fun i hi => ⟨(h i hi).1, fun j hj => ⟨(h i hi).2 j (by omega), (h j (by omega)).2 i hi⟩⟩
theorem ok_alP {a : AN} (W : WF a) {p : Nat → Nat} (hp : ∀ i, i < an a → p i < an a) (h : okP a (an a) p) : alP a p := fun i hi => ⟨(h i hi).1, fun j hj => by
  by_cases e : j = i
  · subst e; rw [(W.2.2.2.2.2 _ (hp j hj)).2.1, (W.2.2.2.2.2 j hj).2.1]
  · by_cases e2 : j < i
    · exact ((h i hi).2 j e2).1
    · exact ((h j hj).2 i (by omega)).2⟩
theorem alP_cong {a : AN} {p p' : Nat → Nat} (h : ∀ i, i < an a → p i = p' i) : alP a p ↔ alP a p' := by
  unfold alP
  constructor
  · intro q i hi
    rw [← h i hi]
    refine ⟨(q i hi).1, fun j hj => ?_⟩
    rw [← h j hj]; exact (q i hi).2 j hj
  · intro q i hi
    rw [h i hi]
    refine ⟨(q i hi).1, fun j hj => ?_⟩
    rw [h j hj]; exact (q i hi).2 j hj
theorem alB_to {a : AN} {p : Nat → Nat} : alB a (toL (an a) p) = true ↔ alP a p := by
  rw [alB_iff]
  exact alP_cong (fun i hi => toL_get hi)
theorem cum_z {f : Nat → Nat} : ∀ m, (∀ x, x < m → f x = 0) → cum (fun x v => v + f x) 0 m = 0
  | 0, _ => rfl
  | m + 1, h => by rw [cum, cum_z m (fun x hx => h x (by omega)), h m (by omega)]
theorem cN_0 {a : AN} : ∀ d w p, w + d = an a → ¬ okP a w p → cN a (an a) d w p = 0
  | 0, w, p, hw, h => by
    unfold cN
    have : w = an a := by omega
    subst this
    rw [if_neg (fun q => h (alP_ok (alB_to.mp q)))]
  | d + 1, w, p, hw, h => by
    unfold cN
    refine cum_z _ (fun x hx => ?_)
    split
    · rfl
    · exact cN_0 d (w + 1) _ (by omega) (fun q => h (okP_upn.mp q).1)
theorem CN.eq7 {I I' : HI} {r : Nat} {a : AN} (N : CN I r a) (h : ∀ j i, j ≤ 7 → I' (r + j) i = I (r + j) i) : CN I' r a := by
  obtain ⟨e0, e1, e2, e3, e4, e5, e6, e7, e8, e9⟩ := N
  refine ⟨(h 0 _ (by omega)).trans e0, (h 0 _ (by omega)).trans e1, (h 0 _ (by omega)).trans e2, fun w hw => (h 1 _ (by omega)).trans (e3 w hw), fun w hw => (h 2 _ (by omega)).trans (e4 w hw), fun w hw => (h 3 _ (by omega)).trans (e5 w hw), fun w hw => (h 4 _ (by omega)).trans (e6 w hw), ?_, fun i hi => ?_, fun w hw h0 v hv => (h 7 _ (by omega)).trans (e9 w hw h0 v hv)⟩
  · obtain ⟨o, h1, h2⟩ := e7
    exact ⟨o, h1, fun i hi => (h 5 _ (by omega)).trans (h2 i hi)⟩
  · rw [h 7 _ (by omega)]; exact e8 i hi
theorem suits_k {I : HI} {a : AN} {w x : Nat} {p : Nat → Nat} (W : WF a) (N : CN I 1 a) (n6 : an a ≤ 6) (hw : w < an a) (hx : x < an a) (h : ∀ j, j < w → I 9 j = nI (p j)) (hp : ∀ j, j < w → p j < an a) (h9 : I 9 w = nI x) {Q : Int32 → Prop} (hQ : ∀ b : Bool, (b = true ↔ suP a w x p) → Q (b01 b)) : Net_suits I 1 (nI w) Q := by
  have h256 := p2le W.2.1
  have e3 := N.2.2.2.1
  have e4 := N.2.2.2.2.1
  have r1 := (W.2.2.2.2.2 w hw).2.2.1
  have r2 := (W.2.2.2.2.2 x hx).2.2.1
  have lw := (W.2.2.2.2.2 w hw).1
  have lx := (W.2.2.2.2.2 x hx).1
  have key : ∀ d j, j + d = w → (∀ b : Bool, (b = true ↔ ∀ j', j ≤ j' → j' < w → (alk a w).testBit j' = (alk a x).testBit (p j') ∧ (alk a j').testBit w = (alk a (p j')).testBit x) → Q (b01 b)) → Net_suits_l26 I 1 (nI w) (nI x) Q (d + 1) (nI j) := by
    intro d
    induction d with
    | zero =>
      intro j hj hK
      rw [Net_suits_l26]
      exact it (nI_le (by omega) (by omega)) (hK true ⟨fun _ j' h1 h2 => by omega, fun _ => rfl⟩)
    | succ d ih =>
      intro j hj hK
      have hpj := hp j (by omega)
      have lj := (W.2.2.2.2.2 j (by omega)).1
      have lp := (W.2.2.2.2.2 (p j) hpj).1
      rw [Net_suits_l26, nx_nI (show w < 2 ^ 31 by omega), nx_nI (show x < 2 ^ 31 by omega), nx_nI (show j < 2 ^ 31 by omega), show I (1 + 8) j = nI (p j) from h j (by omega), e3 w hw, e3 x hx]
      have no : ¬ ((alk a w).testBit j = (alk a x).testBit (p j) ∧ (alk a j).testBit w = (alk a (p j)).testBit x) → Q 0 := fun q => hK false ⟨fun q2 => absurd q2 (by decide), fun q2 => absurd (q2 j (Nat.le_refl _) (by omega)) q⟩
      have yes : ((alk a w).testBit j = (alk a x).testBit (p j) ∧ (alk a j).testBit w = (alk a (p j)).testBit x) → Net_suits_l26 I 1 (nI w) (nI x) Q (d + 1) (nI j + 1) := fun q => by
        rw [nI_1]
        refine ih (j + 1) (by omega) (fun b hb => hK b (hb.trans ⟨fun q2 j' h1 h2 => ?_, fun q2 j' h1 h2 => q2 j' (by omega) h2⟩))
        by_cases e : j' = j
        · rw [e]; exact q
        · exact q2 j' (by omega) h2
      have b64 : ∀ c : Bool, (c = true ↔ (alk a w).testBit j = (alk a x).testBit (p j)) → Net_suits_b64 I 1 (nI w) (nI x) (nI j) (b01 c) (fun x3' => Net_suits_l26 I 1 (nI w) (nI x) Q (d + 1) x3') Q := by
        intro c hc
        unfold Net_suits_b64
        rw [nx_nI (show j < 2 ^ 31 by omega), show I (1 + 8) j = nI (p j) from h j (by omega), nx_nI (show p j < 2 ^ 31 by omega), e3 j (by omega), e3 (p j) hpj]
        refine ⟨vin (by omega) (by omega), vin (by omega) (by omega), vin (by omega) (by omega), ic (fun hb => ?_) (fun hb => ?_)⟩
        · rw [nBitE (by omega) (by omega) (by omega) (by omega)] at hb
          unfold Net_suits_b99
          cases c with
          | false => exact it rfl (no (fun q => absurd (hc.mpr q.1) (by decide)))
          | true => exact ie (by decide) (ie (by decide) (yes ⟨hc.mp rfl, hb⟩))
        · rw [nBitE (by omega) (by omega) (by omega) (by omega)] at hb
          unfold Net_suits_b99
          cases c with
          | false => exact it rfl (no (fun q => hb q.2))
          | true => exact ie (by decide) (it rfl (no (fun q => hb q.2)))
      refine ie (nI_ge (by omega) (by omega)) ⟨vin (by omega) (by omega), vin (by omega) (by omega), vin (by omega) (by omega), ic (fun hc => ?_) (fun hc => ?_)⟩
      · rw [nBitE (by omega) (by omega) (by omega) (by omega)] at hc
        exact b64 true ⟨fun _ => hc, fun _ => rfl⟩
      · rw [nBitE (by omega) (by omega) (by omega) (by omega)] at hc
        exact b64 false ⟨fun q => absurd q (by decide), fun q => absurd q hc⟩
  unfold Net_suits
  rw [nx_nI (show w < 2 ^ 31 by omega), show I (1 + 8) w = nI x from h9, nx_nI (show x < 2 ^ 31 by omega), e4 w hw, e4 x hx]
  refine ⟨vin (by omega) (by omega), vin (by omega) (by omega), vin (by omega) (by omega), ic (fun hc => ?_) (fun hc => ?_)⟩
  · rw [nI_eq (by omega) (by omega)] at hc
    exact ⟨w + 1, key w 0 (by omega) (fun b hb => hQ b (hb.trans ⟨fun q => ⟨hc, fun j hj => q j (by omega) hj⟩, fun q j _ hj => q.2 j hj⟩))⟩
  · rw [nI_eq (by omega) (by omega)] at hc
    exact hQ false ⟨fun q => absurd q (by decide), fun q => absurd q.1 hc⟩
theorem usd_iff {p : Nat → Nat} {w x : Nat} : usd p w x = true ↔ ∃ j, j < w ∧ p j = x := by
  unfold usd
  simp
theorem place_k {a : AN} (W : WF a) (n6 : an a ≤ 6) : ∀ d w, w + d = an a → ∀ e, d < e → ∀ I p t, CN I 1 a → (∀ j, j < w → I 9 j = nI (p j)) → (∀ j, j < w → p j < an a) → t < 2 ^ an a → (∀ x, x < an a → t.testBit x = usd p w x) → okP a w p → ∀ {Q : Int32 → HI → Prop}, (∀ I', Fr (fun b i => b = 9 ∧ w ≤ i) I I' → Q (nI (cN a (an a) d w p)) I') → Net_placeFrom e I 1 (nI w) (nI t) Q := by
  have h256 := p2le W.2.1
  intro d
  induction d with
  | zero =>
    intro w hw e he I p t N h hp ht hu ok Q hQ
    obtain ⟨e, rfl⟩ : ∃ k, e = k + 1 := ⟨e - 1, by omega⟩
    have : w = an a := by omega
    subst this
    rw [Net_placeFrom]
    unfold Net_placeFrom_o
    rw [N.1]
    have := hQ I Fr.rf
    unfold cN at this
    rw [if_pos (alB_to.mpr (ok_alP W hp ok))] at this
    exact it (nI_le (Nat.le_refl _) (by omega)) this
  | succ d ihd =>
    intro w hw e he I p t N h hp ht hu ok Q hQ
    obtain ⟨e, rfl⟩ : ∃ k, e = k + 1 := ⟨e - 1, by omega⟩
    have hwn : w < an a := by omega
    rw [Net_placeFrom]
    unfold Net_placeFrom_o
    rw [N.1]
    refine ie (nI_ge (by omega) (by omega)) (it (nI_lt (b := 6) (by omega) (by omega)) ⟨an a + 1, ?_⟩)
    rw [cN] at hQ
    have key : ∀ c x I1, x + c = an a → Fr (fun b i => b = 9 ∧ w ≤ i) I I1 → Net_placeFrom_l21 (Net_placeFrom e) 1 (nI w) (nI t) Q (c + 1) I1 (nI (cum (fun x v => v + (if usd p w x then 0 else cN a (an a) d (w + 1) (upn p w x))) 0 x)) (nI x) := by
      intro c
      induction c with
      | zero =>
        intro x I1 hx f
        have : x = an a := by omega
        subst this
        rw [Net_placeFrom_l21, f _ _ (by omega), N.1]
        exact it (nI_le (Nat.le_refl _) (by omega)) (hQ I1 f)
      | succ c ihc =>
        intro x I1 hx f
        rw [Net_placeFrom_l21, f _ _ (by omega), N.1, nx_nI (show w < 2 ^ 31 by omega)]
        simp only [nI_1]
        have ihc := fun I2 => ihc (x + 1) I2 (by omega)
        rw [cum] at ihc
        have f2 : Fr (fun b i => b = 9 ∧ w ≤ i) I (up2 I1 9 w (nI x)) := f.up ⟨rfl, Nat.le_refl _⟩
        have N2 : CN (up2 I1 9 w (nI x)) 1 a := N.eq7 (fun j i hj => f2 _ _ (by omega))
        refine ie (nI_ge (by omega) (by omega)) ⟨vin (by omega) (by omega), ic (fun hb => ?_) (fun hb => ?_)⟩
        · rw [nBit0 (by omega) (by omega), hu x (by omega)] at hb
          simp only [hb, Bool.false_eq_true, if_false] at ihc
          refine suits_k W N2 n6 hwn (by omega) (fun j hj => ?_) hp (up2_same _ _ _ _) (fun b hbs => ?_)
          · rw [f2 _ _ (by omega)]; exact h j hj
          · cases b with
            | false =>
              refine it rfl ?_
              have nok : ¬ okP a (w + 1) (upn p w x) := fun q => absurd (hbs.mpr (okP_upn.mp q).2) (by decide)
              have := ihc _ f2
              rw [cN_0 d (w + 1) _ (by omega) nok, Nat.add_zero] at this
              exact this
            | true =>
              refine ie (by decide) ?_
              have ok2 : okP a (w + 1) (upn p w x) := okP_upn.mpr ⟨ok, hbs.mp rfl⟩
              rw [nShl1 x (by omega), nOr]
              refine ihd (w + 1) (by omega) e (by omega) _ (upn p w x) _ N2 (fun j hj => ?_) (fun j hj => ?_) (Nat.or_lt_two_pow ht (Nat.pow_lt_pow_right (by decide) (by omega))) (fun y hy => ?_) ok2 (fun I' f' => ?_)
              · by_cases ej : j = w
                · rw [ej, upn_same]; exact up2_same _ _ _ _
                · rw [upn_ne _ _ ej, f2 _ _ (by omega)]; exact h j (by omega)
              · by_cases ej : j = w
                · rw [ej, upn_same]; omega
                · rw [upn_ne _ _ ej]; exact hp j (by omega)
              · rw [Nat.testBit_or, hu y hy, Nat.testBit_two_pow]
                have e1 : usd (upn p w x) (w + 1) y = true ↔ (usd p w y || decide (x = y)) = true := by
                  rw [usd_iff, Bool.or_eq_true, usd_iff, decide_eq_true_iff]
                  constructor
                  · rintro ⟨j, h1, h2⟩
                    by_cases ej : j = w
                    · rw [ej, upn_same] at h2; exact Or.inr h2
                    · rw [upn_ne _ _ ej] at h2; exact Or.inl ⟨j, by omega, h2⟩
                  · rintro (⟨j, h1, h2⟩ | h2)
                    · exact ⟨j, by omega, by rw [upn_ne _ _ (by omega)]; exact h2⟩
                    · exact ⟨w, by omega, by rw [upn_same]; exact h2⟩
                cases e2 : usd (upn p w x) (w + 1) y with
                | true => exact e1.mp e2
                | false =>
                  cases e3 : (usd p w y || decide (x = y)) with
                  | false => rfl
                  | true => rw [e1.mpr e3] at e2; cases e2
              · rw [nI_add]
                exact ihc I' (f2.tr (f'.mono (fun b i hb => ⟨hb.1, by omega⟩)))
        · rw [nBit0 (by omega) (by omega), hu x (by omega)] at hb
          have hb : usd p w x = true := by cases e1 : usd p w x; exact absurd e1 hb; rfl
          simp only [hb, if_true] at ihc
          exact ihc _ f2
    exact key (an a) 0 I (by omega) Fr.rf
theorem st_alike {ro : Nat} {I : HI} {J : HJ} {T F : HR} {L : HL} {IM : HI} {JM : HJ} (hI : Inv ro (I, J, T, F, L) IM JM) : St_alike I J T F L ro IM JM (Inv ro) := by
  obtain ⟨own, h, a, B⟩ := Inv_el hI
  have no : Inv ro (I, J, T, F, L) (up2 IM 0 0 0) JM := Inv_mk (B.thr (Fr0 IM 0))
  obtain ⟨W, R, N, C, b5, b6, b7⟩ := B
  have n8 := W.2.1
  have nz := nz_own b7.1
  unfold St_alike H_alike Net_countPlacings
  rw [N.1]
  by_cases n6 : an a ≤ 6
  · refine it (nI_le (b := 6) n6 (by omega)) (place_k W n6 (an a) 0 (by omega) 8 (by omega) I (fun _ => 0) 0 N (fun j hj => by omega) (fun j hj => by omega) (Nat.pow_pos (by decide)) (fun x hx => by simp [usd]) (fun i hi => by omega) (fun I' f => ?_))
    rw [cN_ex]
    refine M_alike_k W R n6 (fun IM' fm => ⟨rfl, Inv_mk (own := own) (h := h) (a := a) ?_⟩)
    refine ⟨W, R.eq (fun b i hb => fm _ _ (by omega)), N.eq7 (fun j i hj => f _ _ (by omega)), C.fr (fun b i hb => f _ _ (by have := nz b; omega)) (fun _ _ => rfl) n8 Ext.rf, b5.eq (fun b i hb => fm _ _ (by omega)), b6.eq (fun b i hb => f _ _ (by omega)), b7.fr (fun b i hb => f _ _ ?_) (fun _ _ _ => rfl) Ext.rf (fun b i hb => fm _ _ ?_)⟩
    · have := nz b
      unfold RC at hb; omega
    · unfold RM at hb; omega
  · refine ie (nI_ge (a := 6) (by omega) (by omega)) ?_
    unfold M_alike
    rw [Fr0 IM 0 0 1 (by omega), R.1.1]
    exact ie (nI_ge (a := 6) (by omega) (by omega)) ⟨rfl, no⟩
