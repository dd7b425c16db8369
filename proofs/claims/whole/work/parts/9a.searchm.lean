/-! search: the reference's side -/
def stv (x : Nat) : Int32 := if x = 0 then -1 else nI (x - 1)
theorem stv_m {x : Nat} (hx : x ≤ 4) : stv x = -1 ↔ x = 0 := by
  unfold stv
  by_cases h : x = 0
  · rw [if_pos h]; exact ⟨fun _ => h, fun _ => rfl⟩
  · rw [if_neg h]; exact ⟨fun q => absurd q (nI_nm1 (by omega)), fun q => absurd q h⟩
theorem stv_h {x y : Nat} (hx : x ≤ 4) (hy : y < 4) : stv x = nI y ↔ x = y + 1 := by
  unfold stv
  by_cases h : x = 0
  · rw [if_pos h]; exact ⟨fun q => absurd q.symm (nI_nm1 (by omega)), fun q => by omega⟩
  · rw [if_neg h, nI_eq (by omega) (by omega)]; omega
def vws (a : AN) (I : HI) : Prop := ∀ r, r < aq a ^ an a → ∀ w, w < an a → I 25 (8 * r + w) = nI (vwr a r w)
def SmI (I : HI) (s : SS5) : Prop := (∀ c, c < 8192 → I 24 c = stv (s.1 c)) ∧ I 0 49 = nI s.2.2.2.2 ∧ stk2 I 26 27 s.2.1
def smP : Nat → Nat → Prop := fun b i => b = 24 ∨ b = 26 ∨ b = 27 ∨ b = 0 ∧ i = 49
theorem someR_k {I : HI} {a : AN} {r : Nat} {st : Nat → Nat} (W : WF a) (h : ato a) (R : RepM I a) (V : vws a I) (hr : r < aq a ^ an a) (hs : ∀ c, c < 8192 → I 24 c = stv (st c)) (sl : ∀ c, st c ≤ aq a) {Q : Int32 → Prop} (hQ : Q (b01 (smr a st r))) : M_isSomeRight I (nI r) Q := by
  have n8 := W.2.1
  have q2 := W.2.2.1
  have q4 := W.2.2.2.1
  have r5 := W.2.2.2.2.1
  have key : ∀ d w acc, w + d = an a → (∀ b : Bool, (b = true ↔ acc = true ∨ ∃ w', w ≤ w' ∧ w' < an a ∧ st (cel a r w') = hat a r w' + 1) → Q (b01 b)) → M_isSomeRight_l7 I (nI r) Q (d + 1) (b01 acc) (nI (r / aq a ^ w)) (nI w) := by
    intro d
    induction d with
    | zero =>
      intro w acc hw hK
      rw [M_isSomeRight_l7, R.1.1]
      refine it (nI_le (by omega) (by omega)) ⟨?_, hK acc ⟨fun q => Or.inl q, fun q => ?_⟩⟩
      · cases acc
        · exact zb_0
        · exact zb_1
      · rcases q with q | ⟨w', h1, h2, _⟩
        · exact q
        · omega
    | succ d ih =>
      intro w acc hw hK
      have hw' : w < an a := by omega
      obtain ⟨c1, c2⟩ := cel_lt W h (r := r) hw'
      have s1 := sl (cel a r w)
      have h1 := hat_lt W r w
      have hd : r / aq a ^ w < 2 ^ 31 := Nat.lt_of_le_of_lt (Nat.div_le_self _ _) (by omega)
      have b58 : ∀ acc2 : Bool, (∀ b : Bool, (b = true ↔ acc2 = true ∨ ∃ w', w + 1 ≤ w' ∧ w' < an a ∧ st (cel a r w') = hat a r w' + 1) → Q (b01 b)) → M_isSomeRight_b58 I (nI r) (nI (r / aq a ^ w)) (nI w) (b01 acc2) (fun x2' x3' x4' => M_isSomeRight_l7 I (nI r) Q (d + 1) x2' x3' x4') Q := by
        intro acc2 hK2
        unfold M_isSomeRight_b58
        rw [R.1.2.1, nDiv hd (by omega), Nat.div_div_eq_div_mul, ← Nat.pow_succ, nI_1]
        exact ⟨nI_ne0 (by omega) (by omega), ih (w + 1) acc2 (by omega) hK2⟩
      rw [M_isSomeRight_l7, R.1.1]
      refine ie (nI_ge (by omega) (by omega)) ?_
      cases acc with
      | true => exact ie (by decide) (b58 true (fun b hb => hK b (hb.trans ⟨fun _ => Or.inl rfl, fun _ => Or.inl rfl⟩)))
      | false =>
        refine it rfl ?_
        rw [nlit8, nM, nI_add, nx_nI (show 8 * r + w < 2 ^ 31 by omega), V r hr w hw', nlit1024, nM, nI_add, show 1024 * w + vwr a r w = cel a r w from rfl, nx_nI (show cel a r w < 2 ^ 31 by omega), hs _ c2, R.1.2.1, nRem hd (by omega), show r / aq a ^ w % aq a = hat a r w from rfl]
        refine ⟨vin (by omega) (by omega), vin c2 (by omega), nI_ne0 (by omega) (by omega), ic (fun hc => ?_) (fun hc => ?_)⟩
        · rw [stv_h (by omega) (by omega)] at hc
          exact b58 true (fun b hb => hK b (hb.trans ⟨fun _ => Or.inr ⟨w, Nat.le_refl _, hw', hc⟩, fun _ => Or.inl rfl⟩))
        · rw [stv_h (by omega) (by omega)] at hc
          refine b58 false (fun b hb => hK b (hb.trans ⟨fun q => ?_, fun q => ?_⟩))
          · rcases q with q | ⟨w', h2, h3, h4⟩
            · cases q
            · exact Or.inr ⟨w', by omega, h3, h4⟩
          · rcases q with q | ⟨w', h2, h3, h4⟩
            · cases q
            · by_cases e : w' = w
              · rw [e] at h4; exact absurd h4 hc
              · exact Or.inr ⟨w', by omega, h3, h4⟩
  unfold M_isSomeRight
  have := key (an a) 0 false (by omega) (fun b hb => by
    have e : b = smr a st r := by
      cases e1 : smr a st r with
      | true =>
        obtain ⟨w, h1, h2⟩ := smr_iff.mp e1
        exact hb.mpr (Or.inr ⟨w, by omega, h1, h2⟩)
      | false =>
        cases b with
        | false => rfl
        | true =>
          rcases hb.mp rfl with q | ⟨w, _, h1, h2⟩
          · cases q
          · rw [smr_iff.mpr ⟨w, h1, h2⟩] at e1; cases e1
    rw [e]; exact hQ)
  rw [Nat.pow_zero, Nat.div_one] at this
  exact ⟨an a + 1, this⟩
theorem hatIn_k {a : AN} {r w : Nat} (W : WF a) (hr : r < 2 ^ 31) (hw : w < 2 ^ 31) {Q : Int32 → Prop} (hQ : Q (nI (hat a r w))) : M_hatIn (nI r) (nI w) (nI (aq a)) Q := by
  have q2 := W.2.2.1
  have q4 := W.2.2.2.1
  have key : ∀ d j, j + d = w → M_hatIn_l5 (nI w) (nI (aq a)) Q (d + 1) (nI (r / aq a ^ j)) (nI j) := by
    intro d
    induction d with
    | zero =>
      intro j hj
      have : j = w := by omega
      subst this
      have hd : r / aq a ^ j < 2 ^ 31 := Nat.lt_of_le_of_lt (Nat.div_le_self _ _) hr
      rw [M_hatIn_l5, nRem hd (by omega)]
      exact it (nI_le (Nat.le_refl _) hw) ⟨nI_ne0 (by omega) (by omega), hQ⟩
    | succ d ih =>
      intro j hj
      have hd : r / aq a ^ j < 2 ^ 31 := Nat.lt_of_le_of_lt (Nat.div_le_self _ _) hr
      rw [M_hatIn_l5, nDiv hd (by omega), Nat.div_div_eq_div_mul, ← Nat.pow_succ, nI_1]
      exact ie (nI_ge (by omega) hw) ⟨nI_ne0 (by omega) (by omega), ih (j + 1) (by omega)⟩
  have := key w 0 (by omega)
  rw [Nat.pow_zero, Nat.div_one] at this
  exact ⟨w + 1, this⟩
theorem l108_k {I : HI} {a : AN} {r : Nat} {st : Nat → Nat} {x1 x2 : Int32} (W : WF a) (h : ato a) (R : RepM I a) (V : vws a I) (hr : r < aq a ^ an a) (hs : ∀ c, c < 8192 → I 24 c = stv (st c)) (sl : ∀ c, st c ≤ aq a) {K : HI → Int32 → Int32 → Int32 → Prop} {Q : Int32 → HI → Prop} : ∀ d w, w + d = an a → M_search_b156 I x1 x2 (nI r) (match uns a st r d w with | some x => nI x | none => nI (an a)) 0 K Q → M_search_l108 I x1 x2 (nI r) 0 K Q (d + 1) (nI w) := by
  have n8 := W.2.1
  have q4 := W.2.2.2.1
  have r5 := W.2.2.2.2.1
  intro d
  induction d with
  | zero =>
    intro w hw hQ
    rw [M_search_l108, R.1.1]
    have : w = an a := by omega
    subst this
    exact it rfl (it (nI_le (Nat.le_refl _) (by omega)) hQ)
  | succ d ih =>
    intro w hw hQ
    have hw' : w < an a := by omega
    obtain ⟨c1, c2⟩ := cel_lt W h (r := r) hw'
    have s1 := sl (cel a r w)
    rw [M_search_l108, R.1.1, nlit8, nM, nI_add, nx_nI (show 8 * r + w < 2 ^ 31 by omega), V r hr w hw', nlit1024, nM, nI_add, show 1024 * w + vwr a r w = cel a r w from rfl, nx_nI (show cel a r w < 2 ^ 31 by omega), hs _ c2, nI_1]
    unfold uns at hQ
    refine it rfl (ie (nI_ge (by omega) (by omega)) ⟨vin (by omega) (by omega), vin c2 (by omega), ic (fun hc => ?_) (fun hc => ?_)⟩)
    · rw [stv_m (by omega)] at hc
      rw [if_pos hc] at hQ; exact hQ
    · rw [stv_m (by omega)] at hc
      rw [if_neg hc] at hQ; exact ih (w + 1) (by omega) hQ
theorem scan_k {I : HI} {a : AN} {lim : Nat} {st : Nat → Nat} {x2 : Int32} (W : WF a) (h : ato a) (R : RepM I a) (V : vws a I) (hs : ∀ c, c < 8192 → I 24 c = stv (st c)) (sl : ∀ c, st c ≤ aq a) {Q : Int32 → HI → Prop} {R1 : Nat} (hR : R1 ≤ aq a ^ an a) (hend : ∃ nn, M_search_l76 (nI lim) Q nn I x2 (nI R1) (nI 0)) : ∀ d r, r + d = R1 → (∀ r', r ≤ r' → r' < R1 → smr a st r' = true) → ∃ nn, M_search_l76 (nI lim) Q nn I x2 (nI r) (nI 0) := by
  have r5 := W.2.2.2.2.1
  intro d
  induction d with
  | zero =>
    intro r hr _
    have : r = R1 := by omega
    rw [this]; exact hend
  | succ d ih =>
    intro r hr hall
    obtain ⟨nn, hn⟩ := ih (r + 1) (by omega) (fun r' h1 h2 => hall r' (by omega) h2)
    refine ⟨nn + 1, ?_⟩
    rw [M_search_l76, R.2.1]
    refine ie (nI_ge (by omega) (by omega)) (it rfl (someR_k (st := st) W h R V (by omega) hs sl ?_))
    rw [hall r (Nat.le_refl _) (by omega)]
    refine ie (by decide) ⟨1, ?_⟩
    rw [M_search_l108]
    refine ie (by decide) ?_
    unfold M_search_b156 M_search_b228
    refine ie (by decide) (ie (by decide) ?_)
    rw [nI_1]
    exact hn
def FinM (Q : Int32 → HI → Prop) (c : Int32) (I : HI) : Prop := if c = 1 then ∃ nn, M_search_l318 Q nn I 0 else Q c I
theorem l76_k {I0 : HI} {a : AN} {lim : Nat} (W : WF a) (h : ato a) (R0 : RepM I0 a) (V0 : vws a I0) (hl : lim ≤ 5000) {Q : Int32 → HI → Prop} : ∀ m s I, sok a lim m s → Fr smP I0 I → SmI I s → (∀ I', Fr smP I0 I' → SmI I' (srs a lim m s).2 → FinM Q (srs a lim m s).1 I') → ∃ nn, M_search_l76 (nI lim) Q nn I (nI s.2.1.length) (nI s.2.2.1) (nI s.2.2.2.1) := by
  have n8 := W.2.1
  have q2 := W.2.2.1
  have q4 := W.2.2.2.1
  have r5 := W.2.2.2.2.1
  intro m
  induction m with
  | zero =>
    intro s I ok f S hQ
    obtain ⟨k1, k2, k3, k4, k5, k6, k7, k8⟩ := ok
    omega
  | succ m ih =>
    intro s I ok f S hQ
    obtain ⟨st, sk, row, frm, made⟩ := s
    have ok0 := ok
    obtain ⟨k1, k2, k3, k4, k5, k6, k7, k8⟩ := ok
    dsimp only at k1 k2 k3 k4 k5 k6 k7 k8
    have S0 := S
    obtain ⟨s1, s2, s3⟩ := S
    dsimp only at s1 s2 s3
    have R : RepM I a := R0.eq (fun b i hb => f _ _ (by unfold smP; omega))
    have V : vws a I := fun r hr w hw => (f _ _ (by unfold smP; omega)).trans (V0 r hr w hw)
    show ∃ nn, M_search_l76 (nI lim) Q nn I (nI sk.length) (nI row) (nI frm)
    by_cases hr : aq a ^ an a ≤ row
    · have e : srs a lim (m + 1) (st, sk, row, frm, made) = (1, (st, sk, row, frm, made)) := by rw [srs]; exact if_pos hr
      rw [e] at hQ
      refine ⟨1, ?_⟩
      rw [M_search_l76, R.2.1]
      have := hQ I f S0
      unfold FinM at this
      rw [if_pos rfl] at this
      exact it (nI_le hr (by omega)) this
    · have hrow : row < aq a ^ an a := by omega
      -- behind the looking for a wearer
      have body : ∃ nn, M_search_b156 I (nI lim) (nI sk.length) (nI row) (match uns a st row (an a - frm) frm with | some x => nI x | none => nI (an a)) 0 (fun I' x2' x3' x4' => M_search_l76 (nI lim) Q nn I' x2' x3' x4') Q := by
        cases e : uns a st row (an a - frm) frm with
        | none =>
          cases sk with
          | nil =>
            have e2 : srs a lim (m + 1) (st, [], row, frm, made) = (0, (st, [], row, frm, made)) := by rw [srs]; dsimp only; rw [if_neg hr, e]
            rw [e2] at hQ
            refine ⟨0, ?_⟩
            unfold M_search_b156
            rw [R.1.1]
            have := hQ I f S0
            unfold FinM at this
            rw [if_neg (show ¬ (0 : Int32) = 1 by decide)] at this
            exact it rfl (it rfl (it rfl this))
          | cons p sk =>
            obtain ⟨r, w⟩ := p
            have e2 : srs a lim (m + 1) (st, (r, w) :: sk, row, frm, made) = srs a lim m (upn st (cel a r w) 0, sk, r, w + 1, made) := by rw [srs]; dsimp only; rw [if_neg hr, e]
            rw [e2] at hQ
            have pk := k2 (r, w) (List.mem_cons_self ..)
            dsimp only at pk
            rw [List.length_cons] at k6 k7
            obtain ⟨u1, u2, u3⟩ := s3
            obtain ⟨c1, c2⟩ := cel_lt W h (r := r) pk.2
            have f2 : Fr (fun b i => b = 24 ∧ i = cel a r w) I (up2 I 24 (cel a r w) (-1)) := Fr.rf.up ⟨rfl, rfl⟩
            obtain ⟨nn, hn⟩ := ih (upn st (cel a r w) 0, sk, r, w + 1, made) (up2 I 24 (cel a r w) (-1)) (sok_pop ok0 rfl) (f.tr (f2.mono (fun b i hb => by unfold smP; omega))) ⟨fun c hc => by
              dsimp only
              rw [up2_get]
              by_cases ec : c = cel a r w
              · rw [if_pos ⟨rfl, ec⟩, ec, upn_same]; rfl
              · rw [if_neg (by omega), upn_ne _ _ ec]; exact s1 c hc, (f2 _ _ (by omega)).trans s2, stk2_fr sk (fun i _ => ⟨f2 _ _ (by omega), f2 _ _ (by omega)⟩) u3⟩ hQ
            refine ⟨nn, ?_⟩
            unfold M_search_b156
            rw [R.1.1]
            refine it rfl (it rfl ?_)
            show if nI (sk.length + 1) = 0 then _ else _
            refine ie (nI_ne0 (by omega) (by omega)) ?_
            have ed : nI (sk.length + 1) + (-1) = nI sk.length := by rw [nDec (by omega), Nat.add_sub_cancel]
            have v5 : vp_in (nI sk.length) 8192 := vin (by omega) (by omega)
            have es : nx (nI ((r, w) :: sk).length + (-1)) = sk.length := by
              show nx (nI (sk.length + 1) + (-1)) = _
              rw [ed, nx_nI (by omega)]
            have ev : nI ((r, w) :: sk).length + (-1) = nI sk.length := ed
            rw [es, ev, u1, u2]
            have x1 : ((8 * nI r) + (nI w + 1)) - 1 = nI (8 * r + w) := by rw [nlit8, nM, nI_1, nI_add, nlit1, nS (by omega)]; congr 1
            have x2 : (nI w + 1) - 1 = nI w := by rw [nI_1, nlit1, nS (by omega), Nat.add_sub_cancel]
            rw [x1, x2, nx_nI (show 8 * r + w < 2 ^ 31 by omega), V r pk.1 w pk.2, nlit1024, nM, nI_add, show 1024 * w + vwr a r w = cel a r w from rfl, nx_nI (show cel a r w < 2 ^ 31 by omega), nI_1]
            exact ⟨v5, v5, vin (by omega) (by omega), vin c2 (by omega), hn⟩
        | some w =>
          obtain ⟨w1, w2, w3⟩ := uns_lt _ _ _ e
          have hw : w < an a := by omega
          have hat1 := hat_lt W row w
          obtain ⟨c1, c2⟩ := cel_lt W h (r := row) hw
          have pre : ∀ {K : HI → Int32 → Int32 → Int32 → Prop}, M_search_b228 I (nI lim) (nI sk.length) (nI row) (nI w) 0 K Q → M_search_b156 I (nI lim) (nI sk.length) (nI row) (nI w) 0 K Q := by
            intro K hb
            unfold M_search_b156
            rw [R.1.1]
            exact it rfl (ie (fun q => by rw [nI_eq (by omega) (by omega)] at q; omega) hb)
          by_cases hm : lim ≤ made
          · have e2 : srs a lim (m + 1) (st, sk, row, frm, made) = (-2, (st, sk, row, frm, made)) := by rw [srs]; dsimp only; rw [if_neg hr, e]; dsimp only; rw [if_pos hm]
            rw [e2] at hQ
            refine ⟨0, pre ?_⟩
            unfold M_search_b228
            rw [s2]
            have := hQ I f S0
            unfold FinM at this
            rw [if_neg (show ¬ (-2 : Int32) = 1 by decide)] at this
            refine it rfl (it ?_ this)
            show nI made = nI lim
            rw [show made = lim by omega]
          · have e2 : srs a lim (m + 1) (st, sk, row, frm, made) = srs a lim m (upn st (cel a row w) (hat a row w + 1), (row, w) :: sk, rnr a (upn st (cel a row w) (hat a row w + 1)) (aq a ^ an a - (row + 1)) (row + 1), 0, made + 1) := by rw [srs]; dsimp only; rw [if_neg hr, e]; dsimp only; rw [if_neg hm]
            rw [e2] at hQ
            have ok1 := sok_set W ok0 hrow hw hm
            dsimp only at ok1
            obtain ⟨g1, g2, g3, g4⟩ := rnr_le (a := a) (st := upn st (cel a row w) (hat a row w + 1)) (aq a ^ an a - (row + 1)) (row + 1)
            have sl2 := ok1.1
            have st2c : ∀ c, c < 8192 → (up2 (up2 (up2 (up2 I 0 49 (nI (made + 1))) 24 (cel a row w) (nI (hat a row w))) 26 sk.length (nI row)) 27 sk.length (nI w)) 24 c = stv (upn st (cel a row w) (hat a row w + 1) c) := fun c hc => by
              rw [up2_get, if_neg (by omega), up2_get, if_neg (by omega), up2_get]
              by_cases ec : c = cel a row w
              · rw [if_pos ⟨rfl, ec⟩, ec, upn_same]; rfl
              · rw [if_neg (by omega), up2_get, if_neg (by omega), upn_ne _ _ ec]; exact s1 c hc
            have fJ : Fr (fun b i => b = 24 ∨ (b = 26 ∨ b = 27) ∧ i = sk.length ∨ b = 0 ∧ i = 49) I (up2 (up2 (up2 (up2 I 0 49 (nI (made + 1))) 24 (cel a row w) (nI (hat a row w))) 26 sk.length (nI row)) 27 sk.length (nI w)) := (((Fr.rf.up (by omega)).up (by omega)).up (by omega)).up (by omega)
            have j49 : (up2 (up2 (up2 (up2 I 0 49 (nI (made + 1))) 24 (cel a row w) (nI (hat a row w))) 26 sk.length (nI row)) 27 sk.length (nI w)) 0 49 = nI (made + 1) := by rw [up2_get, if_neg (by omega), up2_get, if_neg (by omega), up2_get, if_neg (by omega), up2_same]
            have j26 : (up2 (up2 (up2 (up2 I 0 49 (nI (made + 1))) 24 (cel a row w) (nI (hat a row w))) 26 sk.length (nI row)) 27 sk.length (nI w)) 26 sk.length = nI row := by rw [up2_get, if_neg (by omega), up2_same]
            have j27 : (up2 (up2 (up2 (up2 I 0 49 (nI (made + 1))) 24 (cel a row w) (nI (hat a row w))) 26 sk.length (nI row)) 27 sk.length (nI w)) 27 sk.length = nI w := up2_same _ _ _ _
            have hgo : ∃ nn, M_search_l76 (nI lim) Q nn (up2 (up2 (up2 (up2 I 0 49 (nI (made + 1))) 24 (cel a row w) (nI (hat a row w))) 26 sk.length (nI row)) 27 sk.length (nI w)) (nI (sk.length + 1)) (nI (row + 1)) (nI 0) := by
              generalize (up2 (up2 (up2 (up2 I 0 49 (nI (made + 1))) 24 (cel a row w) (nI (hat a row w))) 26 sk.length (nI row)) 27 sk.length (nI w)) = J at st2c fJ j49 j26 j27
              generalize upn st (cel a row w) (hat a row w + 1) = st2 at ok1 hQ st2c g1 g2 g3 g4 sl2
              have fI0 : Fr smP I0 J := f.tr (fJ.mono (fun b i hb => by unfold smP; omega))
              have RJ : RepM J a := R0.eq (fun b i hb => fI0 _ _ (by unfold smP; omega))
              have VJ : vws a J := fun r hr w hw => (fI0 _ _ (by unfold smP; omega)).trans (V0 r hr w hw)
              generalize hR1 : rnr a st2 (aq a ^ an a - (row + 1)) (row + 1) = R1 at ok1 hQ g1 g2 g3 g4
              have hend := ih (st2, (row, w) :: sk, R1, 0, made + 1) J ok1 fI0 ⟨st2c, j49, j26, j27, stk2_fr sk (fun i hi => ⟨fJ _ _ (by omega), fJ _ _ (by omega)⟩) s3⟩ hQ
              exact scan_k (st := st2) W h RJ VJ st2c sl2 (R1 := R1) (by omega) hend (R1 - (row + 1)) (row + 1) (by omega) (fun r' h1 h2 => g4 r' h1 h2)
            obtain ⟨nn, hn⟩ := hgo
            refine ⟨nn, pre ?_⟩
            unfold M_search_b228
            rw [s2]
            refine it rfl (ie (fun q => by rw [nI_eq (by omega) (by omega)] at q; omega) ?_)
            rw [nI_1]
            have b1 : (up2 I 0 49 (nI (made + 1))) 0 2 = nI (aq a) := by rw [up2_get, if_neg (by omega)]; exact R.1.2.1
            have b2 : (up2 I 0 49 (nI (made + 1))) 25 (8 * row + w) = nI (vwr a row w) := by rw [up2_get, if_neg (by omega)]; exact V row hrow w hw
            rw [b1, nlit8, nM, nI_add, nx_nI (show 8 * row + w < 2 ^ 31 by omega), b2, nlit1024, nM, nI_add, show 1024 * w + vwr a row w = cel a row w from rfl, nx_nI (show cel a row w < 2 ^ 31 by omega), nx_nI (show sk.length < 2 ^ 31 by omega)]
            have v5 : vp_in (nI sk.length) 8192 := vin (by omega) (by omega)
            refine ⟨vin (by omega) (by omega), hatIn_k W (by omega) (by omega) ⟨vin c2 (by omega), v5, v5, ?_⟩⟩
            rw [nI_1, nI_1]
            exact hn
      obtain ⟨nn, hb⟩ := body
      refine ⟨nn + 1, ?_⟩
      rw [M_search_l76, R.2.1]
      refine ie (nI_ge hrow (by omega)) ?_
      have hl108 := l108_k (st := st) W h R V hrow s1 k1 (an a - frm) frm (by omega) hb
      by_cases hf : frm = 0
      · subst hf
        refine it rfl (someR_k (st := st) W h R V hrow s1 k1 ?_)
        rcases k8 rfl with q | q
        · omega
        · rw [q]
          exact it rfl ⟨_, hl108⟩
      · exact ie (nI_ne0 (by omega) (by omega)) ⟨_, hl108⟩
