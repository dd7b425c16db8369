/-! cover: the tables, the class's side -/
/-- the row in which w's hat is 0 and its view is v; the view in a row -/
def rvw (w v : Nat) : Nat := v / 2 ^ w * 2 ^ (w + 1) + v % 2 ^ w
def vvw (w r : Nat) : Nat := r / 2 ^ (w + 1) * 2 ^ w + r % 2 ^ w
def gbt (x y : Bool) : Nat := if x then (if y then 0 else 1) else (if y then 0 else 2)
def cvt (n w v : Nat) : Nat := gbt (decide (rvw w v ∈ cov n)) (decide (rvw w v ||| 2 ^ w ∈ cov n))
theorem cvt_le (n w v : Nat) : cvt n w v ≤ 2 := by unfold cvt gbt; split <;> split <;> omega
def rvwB (n : Nat) : Bool := (List.range n).all (fun w => (List.range (2 ^ (n - 1))).all (fun v => decide ((((nI v >>> (nI w &&& 31)) <<< (nI (w + 1) &&& 31)) ||| (nI v &&& (((1 : Int32) <<< (nI w &&& 31)) - 1))) = nI (rvw w v)) && decide ((nI (rvw w v) ||| ((1 : Int32) <<< (nI w &&& 31))) = nI (rvw w v ||| 2 ^ w)) && decide (rvw w v < 2 ^ n) && decide ((rvw w v ||| 2 ^ w) < 2 ^ n) && decide ((rvw w v).testBit w = false) && decide (vvw w (rvw w v) = v)))
theorem rvwB_k : ∀ n, n < 6 → 1 ≤ n → rvwB n = true := by decide +kernel
theorem rvw_k (n : Nat) (h6 : n < 6) (h1 : 1 ≤ n) (w : Nat) (hw : w < n) (v : Nat) (hv : v < 2 ^ (n - 1)) : (((nI v >>> (nI w &&& 31)) <<< (nI (w + 1) &&& 31)) ||| (nI v &&& (((1 : Int32) <<< (nI w &&& 31)) - 1))) = nI (rvw w v) ∧ (nI (rvw w v) ||| ((1 : Int32) <<< (nI w &&& 31))) = nI (rvw w v ||| 2 ^ w) ∧ rvw w v < 2 ^ n ∧ (rvw w v ||| 2 ^ w) < 2 ^ n ∧ (rvw w v).testBit w = false ∧ vvw w (rvw w v) = v := by
  have := rvwB_k n h6 h1
  unfold rvwB at this
  rw [List.all_eq_true] at this
  have := this w (List.mem_range.mpr hw)
  rw [List.all_eq_true] at this
  have := this v (List.mem_range.mpr hv)
  simp only [Bool.and_eq_true, decide_eq_true_eq] at this
  exact ⟨this.1.1.1.1.1, this.1.1.1.1.2, this.1.1.1.2, this.1.1.2, this.1.2, this.2⟩
def vvwB (n : Nat) : Bool := (List.range n).all (fun w => (List.range (2 ^ n)).all (fun r => r.testBit w || (decide (rvw w (vvw w r) = r) && decide (vvw w r < 2 ^ (n - 1)) && decide (view (aOpen n 2) (hat (aOpen n 2) r) z0 w = vvw w r))))
theorem vvwB_k : ∀ n, n < 6 → 1 ≤ n → vvwB n = true := by decide +kernel
theorem vvw_k (n : Nat) (h6 : n < 6) (h1 : 1 ≤ n) (w : Nat) (hw : w < n) (r : Nat) (hr : r < 2 ^ n) (hb : r.testBit w = false) : rvw w (vvw w r) = r ∧ vvw w r < 2 ^ (n - 1) ∧ view (aOpen n 2) (hat (aOpen n 2) r) z0 w = vvw w r := by
  have := vvwB_k n h6 h1
  unfold vvwB at this
  rw [List.all_eq_true] at this
  have := this w (List.mem_range.mpr hw)
  rw [List.all_eq_true] at this
  have := this r (List.mem_range.mpr hr)
  rw [hb] at this
  simp only [Bool.false_or, Bool.and_eq_true, decide_eq_true_eq] at this
  exact ⟨this.1.1, this.1.2, this.2⟩
theorem avw_o : ∀ n, n < 6 → 1 ≤ n → ∀ w, w < n → vw n 2 (oth n) z0 w = 2 ^ (n - 1) ∧ 2 ^ (n - 1) ≤ 16 := by decide +kernel
theorem mem_getD {l : List Nat} {x : Nat} : x ∈ l ↔ ∃ i, i < l.length ∧ l.getD i 0 = x := by
  constructor
  · intro h
    obtain ⟨i, hi, e⟩ := List.getElem_of_mem h
    exact ⟨i, hi, by rw [List.getD_eq_getElem?_getD, List.getElem?_eq_getElem hi]; exact e⟩
  · rintro ⟨i, hi, e⟩
    rw [List.getD_eq_getElem?_getD, List.getElem?_eq_getElem hi] at e
    exact e ▸ List.getElem_mem hi
theorem isChosen_k {I : HI} {n x : Nat} (h1 : 1 ≤ n) (h5 : n ≤ 5) (hc : covC I n) (hx : x < 32) {Q : Int32 → Prop} (hQ : Q (b01 (decide (x ∈ cov n)))) : Cov_isChosen I (nI x) Q := by
  obtain ⟨k1, k2, k3, k4, k5⟩ := cov_k n (by omega) h1
  obtain ⟨c1, c2, c3⟩ := hc
  have key : ∀ d i, i + d = (cov n).length → (∀ j, j < i → (cov n).getD j 0 ≠ x) → Cov_isChosen_l2 I (nI x) Q (d + 1) (nI i) := by
    intro d
    induction d with
    | zero =>
      intro i hi hno
      rw [Cov_isChosen_l2, c2]
      have e : decide (x ∈ cov n) = false := by
        refine decide_eq_false (fun q => ?_)
        obtain ⟨j, hj, e⟩ := mem_getD.mp q
        exact hno j (by omega) e
      rw [e] at hQ
      exact it (nI_le (by omega) (by omega)) hQ
    | succ d ih =>
      intro i hi hno
      have := (k5 i (by omega)).2
      rw [Cov_isChosen_l2, c2, nx_nI (by omega), c3 i (by omega), nI_1]
      refine ie (nI_ge (by omega) (by omega)) ⟨vin (by omega) (by omega), ic (fun hc => ?_) (fun hc => ?_)⟩
      · rw [nI_eq (by omega) (by omega)] at hc
        rw [decide_eq_true (mem_getD.mpr ⟨i, by omega, hc⟩)] at hQ
        exact hQ
      · rw [nI_eq (by omega) (by omega)] at hc
        refine ih (i + 1) (by omega) (fun j hj => ?_)
        by_cases e : j = i
        · rw [e]; exact hc
        · exact hno j (by omega)
  exact ⟨(cov n).length + 1, key (cov n).length 0 (by omega) (fun j hj => by omega)⟩
theorem aTab_self {b : AN} {w : Nat} (h0 : akd b w = 0) (ht : atb b w = z0) : aTab b w z0 = b := by
  show ((an b, aq b, alk b, ard b, upn (akd b) w 0, upn (atb b) w z0, acd b) : AN) = b
  have e1 : upn (akd b) w 0 = akd b := by
    funext k; unfold upn; split
    · rename_i q; rw [q, h0]
    · rfl
  have e2 : upn (atb b) w z0 = atb b := by
    funext k; unfold upn; split
    · rename_i q; rw [q, ht]
    · rfl
  rw [e1, e2]
theorem Cov_settle_k {own : Nat → Nat} {I0 : HI} {T0 F : HR} {L : HL} {n : Nat} (h1 : 1 ≤ n) (h5 : n ≤ 5) (O : OI I0 1 n 2 0) (hc : covC I0 n) (o56 : ∀ x, x < 56 → own x = 0) (hL : ∀ w f, w < 8 → T0 7 w = some f → (f, 8, 0) ∈ L) {Q : HI → HR → Prop} (hQ : ∀ I T, Fr (nP 1) I0 I → (∀ b i, b ≠ 7 → T b i = T0 b i) → CN I 1 (aAll (aOpen n 2) (cvt n) n) → CT I T F L own 1 (aAll (aOpen n 2) (cvt n) n) → Q I T) : Cov_settle I0 T0 L 1 Q := by
  have p := p25 h5
  have p16 : 2 ^ n ≤ 32 := p
  have W0 : WF (aOpen n 2) := aOpen_WF h1 (by omega) (by omega) (by omega) (by omega)
  have av : ∀ w, w < n → avw (aOpen n 2) w = 2 ^ (n - 1) ∧ 2 ^ (n - 1) ≤ 16 := fun w hw => avw_o n (by omega) h1 w hw
  have WA := aAll_WF (ts := cvt n) W0 (fun w hw => by have := av w hw; omega) (fun w _ v _ => cvt_le n w v)
  unfold Cov_settle
  refine Net_all_k (by omega) (by omega) (by omega) O (fun I1 T1 f1 N1 t1 t2 => ?_)
  have C1 : CT I1 T1 F L own 1 (aOpen n 2) := by
    refine ⟨fun j hj => by rw [o56 _ (by omega)]; decide, fun w f hw hf => ?_, fun w hw => Or.inl ⟨?_, t1 w hw⟩⟩
    · by_cases hwn : w < n
      · rw [t1 w hwn] at hf; cases hf
      · rw [t2 _ _ (by omega)] at hf; exact hL w f hw hf
    · show (if vw n 2 (oth n) z0 w ≤ 1024 then 0 else 2) ≠ 1
      split <;> omega
  have key : ∀ d i I, i + d = n → Fr (nP 1) I1 I → CN I 1 (aAll (aOpen n 2) (cvt n) i) → CT I T1 F L own 1 (aAll (aOpen n 2) (cvt n) i) → Cov_settle_l6 T1 L 1 Q (d + 1) I (nI i) := by
    intro d
    induction d with
    | zero =>
      intro i I hi f N C
      have : i = n := by omega
      subst this
      rw [Cov_settle_l6, f _ _ (by unfold nP; omega), f1 _ _ (by unfold nP; omega), hc.1]
      exact it (nI_le (Nat.le_refl _) (by omega)) (hQ I T1 (f1.tr f) (fun b k hb => t2 _ _ (by omega)) N C)
    | succ d ih =>
      intro i I hi f N C
      have hi' : i < n := by omega
      obtain ⟨av1, av2⟩ := av i hi'
      have hvi : avw (aOpen n 2) i ≤ 1024 := by omega
      have cI : covC I n := ⟨by rw [f _ _ (by unfold nP; omega), f1 _ _ (by unfold nP; omega)]; exact hc.1, by rw [f _ _ (by unfold nP; omega), f1 _ _ (by unfold nP; omega)]; exact hc.2.1, fun k hk => by rw [f _ _ (by unfold nP; omega), f1 _ _ (by unfold nP; omega)]; exact hc.2.2 k hk⟩
      rw [Cov_settle_l6, cI.1]
      refine ie (nI_ge hi' (by omega)) ⟨2 ^ (n - 1) + 1, ?_⟩
      have es : aTab (aAll (aOpen n 2) (cvt n) i) i z0 = aAll (aOpen n 2) (cvt n) i := by
        refine aTab_self ?_ ?_
        · show (if i < i then 0 else (if vw n 2 (oth n) z0 i ≤ 1024 then 0 else 2)) = 0
          rw [if_neg (by omega), if_pos (show vw n 2 (oth n) z0 i ≤ 1024 from hvi)]
        · show (if i < i then cvt n i else fun _ => 0) = z0
          rw [if_neg (by omega)]; rfl
      rw [← es] at N C
      have inner : ∀ e v J, v + e = 2 ^ (n - 1) → Fr (fun x k => x = 1 + 7 ∧ 1024 * i ≤ k ∧ k < 1024 * i + 1024) I J → (∀ k, k < 8192 → byt (J (1 + 7) k)) → (∀ k, k < v → J (1 + 7) (1024 * i + k) = nI (cvt n i k)) → Cov_settle_l16 T1 L 1 (nI i) (fun I' x2' => Cov_settle_l6 T1 L 1 Q (d + 1) I' x2') Q (e + 1) J (nI v) := by
        intro e
        induction e with
        | zero =>
          intro v J he fJ hb ht
          have e5 : J (1 + 4) i = nI (2 ^ (n - 1)) := by
            rw [fJ _ _ (by omega), N.2.2.2.2.2.2.1 i hi']
            show vwi (avw (aOpen n 2) i) = _
            rw [av1]; exact if_pos (by omega)
          rw [Cov_settle_l16, nx_nI (by omega), e5, nI_1]
          refine ⟨vin (by omega) (by omega), it (nI_le (by omega) (by omega)) ?_⟩
          obtain ⟨N3, C3⟩ := settled_k (t := cvt n i) (WA i (by show i ≤ n; omega)) N C o56 hi' hvi fJ hb (fun v' hv' => ht v' (by have hv' : v' < avw (aOpen n 2) i := hv'; omega))
          rw [aAll_s] at N3 C3
          exact ih (i + 1) J (by omega) (f.tr (fJ.mono (fun x k hx => by unfold nP; omega))) N3 C3
        | succ e ihe =>
          intro v J he fJ hb ht
          have e5 : J (1 + 4) i = nI (2 ^ (n - 1)) := by
            rw [fJ _ _ (by omega), N.2.2.2.2.2.2.1 i hi']
            show vwi (avw (aOpen n 2) i) = _
            rw [av1]; exact if_pos (by omega)
          have cJ : covC J n := ⟨by rw [fJ _ _ (by omega)]; exact cI.1, by rw [fJ _ _ (by omega)]; exact cI.2.1, fun k hk => by rw [fJ _ _ (by omega)]; exact cI.2.2 k hk⟩
          obtain ⟨r1, r2, r3, r4, r5, r6⟩ := rvw_k n (by omega) h1 i hi' v (by omega)
          have go : ∀ g, g = cvt n i v → Net_setGuess J 1 (nI i) (nI v) (nI g) (fun I4 => Cov_settle_l16 T1 L 1 (nI i) (fun I' x2' => Cov_settle_l6 T1 L 1 Q (d + 1) I' x2') Q (e + 1) I4 (nI (v + 1))) := by
            intro g hg
            have := cvt_le n i v
            refine setGuess_k (by omega) (by omega) (by omega) (ihe (v + 1) _ (by omega) (fJ.up ⟨rfl, by omega, by omega⟩) (fun k hk => ?_) (fun k hk => ?_))
            · rw [up2_get]; split
              · exact (byt_k _ (by omega)).1
              · exact hb k hk
            · rw [up2_get]
              by_cases ek : k = v
              · rw [if_pos ⟨rfl, by omega⟩, ek, hg]
              · rw [if_neg (by omega)]; exact ht k (by omega)
          rw [Cov_settle_l16, nx_nI (show i < 2 ^ 31 by omega), e5]
          simp only [nI_1]
          rw [r1, r2]
          refine ⟨vin (by omega) (by omega), ie (nI_ge (by omega) (by omega)) (isChosen_k h1 h5 cJ (by omega) (isChosen_k h1 h5 cJ (by omega) ?_))⟩
          unfold Cov_guessBetween
          have ge : cvt n i v = gbt (decide (rvw i v ∈ cov n)) (decide (rvw i v ||| 2 ^ i ∈ cov n)) := rfl
          generalize decide (rvw i v ∈ cov n) = x at ge ⊢
          generalize decide (rvw i v ||| 2 ^ i ∈ cov n) = y at ge ⊢
          cases x <;> cases y
          · exact it rfl (it rfl (go 2 (by rw [ge]; rfl)))
          · exact it rfl (ie (by decide) (go 0 (by rw [ge]; rfl)))
          · exact ie (by decide) (it rfl (go 1 (by rw [ge]; rfl)))
          · exact ie (by decide) (ie (by decide) (go 0 (by rw [ge]; rfl)))
      exact inner (2 ^ (n - 1)) 0 I (by omega) Fr.rf N.2.2.2.2.2.2.2.2.1 (fun k hk => by omega)
  exact ⟨n + 1, key n 0 I1 (by omega) Fr.rf N1 C1⟩
