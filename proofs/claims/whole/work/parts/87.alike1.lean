/-! alike: the reference's next row of wearers, whether it is alike -/
theorem toL_get {n : Nat} {p : Nat → Nat} {i : Nat} (h : i < n) : (toL n p).getD i 0 = p i := by
  unfold toL
  rw [List.getD_eq_getElem?_getD, List.getElem?_map, List.getElem?_range h]
  rfl
theorem nDec {y : Nat} (h : 1 ≤ y) : nI y + (-1) = nI (y - 1) := by
  rw [← nS h, Int32.sub_eq_add_neg]; rfl
theorem swf_lt {n : Nat} {p : Nat → Nat} {i j : Nat} (hp : ∀ k, k < n → p k < n) (hi : i < n) (hj : j < n) : ∀ k, k < n → swf p i j k < n := by
  intro k hk
  unfold swf
  split
  · exact hp i hi
  · split
    · exact hp j hj
    · exact hp k hk
theorem M_swaps_k {I : HI} {n : Nat} {p : Nat → Nat} {i j : Nat} (n8 : n ≤ 8) (h : ∀ k, k < n → I 23 k = nI (p k)) (hi : i < n) (hj : j < n) {Q : HI → Prop} (hQ : ∀ I', Fr (fun b _ => b = 23) I I' → (∀ k, k < n → I' 23 k = nI (swf p i j k)) → Q I') : M_swaps I (nI i) (nI j) Q := by
  unfold M_swaps
  have v1 : vp_in (nI i) 8 := vin (by omega) (by omega)
  have v2 : vp_in (nI j) 8 := vin (by omega) (by omega)
  rw [nx_nI (by omega), nx_nI (by omega)]
  refine ⟨v1, v2, v1, v2, hQ _ (Fr.up (P := fun b _ => b = 23) (Fr.up (P := fun b _ => b = 23) Fr.rf rfl) rfl) (fun k hk => ?_)⟩
  unfold swf
  rw [up2_get]
  by_cases e : k = j
  · rw [if_pos ⟨rfl, e⟩, if_pos e]; exact h i hi
  · rw [if_neg (by omega), if_neg e, up2_get]
    by_cases e2 : k = i
    · rw [if_pos ⟨rfl, e2⟩, if_pos e2]; exact h j hj
    · rw [if_neg (by omega), if_neg e2]; exact h k hk
theorem turns_86 {n : Nat} (n8 : n ≤ 8) {Q : Int32 → HI → Prop} {I0 : HI} : ∀ d x y p I, y < n → y ≤ x + d → Fr (fun b _ => b = 23) I0 I → (∀ k, k < n → I 23 k = nI (p k)) → (∀ k, k < n → p k < n) → (∀ I', Fr (fun b _ => b = 23) I0 I' → (∀ k, k < n → I' 23 k = nI (rvf d p x y k)) → (∀ k, k < n → rvf d p x y k < n) → Q 1 I') → x < 2 ^ 30 → M_turns_l86 Q (d + 1) I (nI x) (nI y) := by
  intro d
  induction d with
  | zero =>
    intro x y p I hy hd f h hp hQ hx
    rw [M_turns_l86]
    exact it (nI_le (by omega) (by omega)) (hQ I f h hp)
  | succ d ih =>
    intro x y p I hy hd f h hp hQ hx
    rw [M_turns_l86]
    rw [rvf] at hQ
    refine ic (fun hc => ?_) (fun hc => ?_)
    · rw [nI_leI (by omega) (by omega)] at hc
      simp only [if_pos hc] at hQ
      exact hQ I f h hp
    · rw [nI_leI (by omega) (by omega)] at hc
      simp only [if_neg hc] at hQ
      refine M_swaps_k n8 h (by omega) hy (fun I' f' h' => ?_)
      rw [nI_1, nDec (by omega)]
      exact ih (x + 1) (y - 1) (swf p x y) I' (by omega) (by omega) (f.tr f') h' (swf_lt hp (by omega) hy) hQ (by omega)
theorem fj_lt {p : Nat → Nat} {i : Nat} : ∀ j, fj p i j ≤ j
  | 0 => Nat.le_refl _
  | j + 1 => by
    unfold fj
    split
    · exact Nat.le_refl _
    · have := fj_lt (p := p) (i := i) j; omega
theorem turns_47 {n : Nat} (n8 : n ≤ 8) {I : HI} {p : Nat → Nat} {i : Nat} (h : ∀ k, k < n → I 23 k = nI (p k)) (hp : ∀ k, k < n → p k < n) {Q : Int32 → HI → Prop} : ∀ d j, j = i + d → j < n → (M_swaps I (nI i) (nI (fj p i j)) (fun I1 => ∃ nn, M_turns_l86 Q nn I1 (nI i + 1) ((I1 0 1) - 1))) → M_turns_l47 I (nI i) Q (d + 1) (nI j) := by
  intro d
  induction d with
  | zero =>
    intro j hj hjn hQ
    have : j = i := by omega
    subst this
    have e : fj p j j = j := by cases j with
      | zero => rfl
      | succ m => unfold fj; rw [if_pos (Nat.le_refl _)]
    rw [e] at hQ
    rw [M_turns_l47, nx_nI (by omega)]
    have v : vp_in (nI j) 8 := vin (by omega) (by omega)
    exact ⟨v, v, it (Int32.le_refl _) hQ⟩
  | succ d ih =>
    intro j hj hjn hQ
    obtain ⟨m, rfl⟩ : ∃ m, j = m + 1 := ⟨i + d, by omega⟩
    have b1 := hp i (by omega)
    have b2 := hp (m + 1) hjn
    rw [M_turns_l47, nx_nI (by omega), nx_nI (by omega), h i (by omega), h (m + 1) hjn]
    unfold fj at hQ
    refine ⟨vin (by omega) (by omega), vin (by omega) (by omega), ic (fun hc => ?_) (fun hc => ?_)⟩
    · rw [nI_leI (by omega) (by omega)] at hc
      rw [if_pos hc] at hQ
      exact hQ
    · rw [nI_leI (by omega) (by omega)] at hc
      rw [if_neg hc] at hQ
      rw [nDec (by omega), Nat.add_sub_cancel]
      exact ih m (by omega) (by omega) hQ
theorem turns_7 {n : Nat} (n8 : n ≤ 8) {I : HI} {p : Nat → Nat} (h : ∀ k, k < n → I 23 k = nI (p k)) (hp : ∀ k, k < n → p k < n) {Q : Int32 → HI → Prop} : ∀ m, m + 1 ≤ n → (fi p m = none → Q 0 I) → (∀ i, fi p m = some i → i + 1 < n → ∃ nn, M_turns_l47 I (nI i) Q nn ((I 0 1) - 1)) → ∀ z, z = nI m + (-1) → M_turns_l7 I Q (m + 1) z := by
  intro m
  induction m with
  | zero =>
    intro hm h0 h1 z hz
    have hz : z = -1 := hz
    rw [hz, M_turns_l7]
    refine it (by decide) ?_
    unfold M_turns_b34
    exact ie (by decide) (h0 rfl)
  | succ m ih =>
    intro hm h0 h1 z hz
    have b1 := hp m (by omega)
    have b2 := hp (m + 1) (by omega)
    rw [nDec (by omega), Nat.add_sub_cancel] at hz
    rw [hz, M_turns_l7, nI_1, nx_nI (by omega), nx_nI (by omega), h m (by omega), h (m + 1) (by omega)]
    unfold fi at h0 h1
    refine ie (nI_pos (by omega)) ⟨vin (by omega) (by omega), vin (by omega) (by omega), ic (fun hc => ?_) (fun hc => ?_)⟩
    · rw [nI_leI (by omega) (by omega)] at hc
      rw [if_pos hc] at h1
      unfold M_turns_b34
      exact it (nI_le (a := 0) (by omega) (by omega)) (h1 m rfl (by omega))
    · rw [nI_leI (by omega) (by omega)] at hc
      rw [if_neg hc] at h0 h1
      have h8 := ih (by omega)
      have h9 := h8 h0
      have h10 := h9 h1
      generalize nI m + (-1) = zz at h10 ⊢
      exact h10 zz rfl
theorem nI_2 : ∀ n, n < 9 → 1 ≤ n → nI n - 2 = nI (n - 1) + (-1) := by decide +kernel
theorem fi_lt {p : Nat → Nat} : ∀ m i, fi p m = some i → i < m
  | 0, _, h => by cases h
  | m + 1, i, h => by
    unfold fi at h
    split at h
    · cases h; omega
    · have := fi_lt m i h; omega
theorem M_turns_k {I : HI} {n : Nat} {p : Nat → Nat} (n8 : n ≤ 8) (n1 : 1 ≤ n) (e1 : I 0 1 = nI n) (h : ∀ k, k < n → I 23 k = nI (p k)) (hp : ∀ k, k < n → p k < n) {Q : Int32 → HI → Prop} (h0 : nxf n p = none → Q 0 I) (h1 : ∀ p' I', nxf n p = some p' → Fr (fun b _ => b = 23) I I' → (∀ k, k < n → I' 23 k = nI (p' k)) → (∀ k, k < n → p' k < n) → Q 1 I') : M_turns I Q := by
  unfold M_turns
  rw [e1]
  refine ⟨n - 1 + 1, turns_7 n8 h hp (n - 1) (by omega) (fun q => h0 (by unfold nxf; rw [q])) (fun i q hi => ?_) _ (nI_2 n (by omega) n1)⟩
  have hil := fi_lt _ _ q
  rw [e1, nlit1, nS n1]
  refine ⟨n - 1 - i + 1, turns_47 n8 h hp (n - 1 - i) (n - 1) (by omega) (by omega) (M_swaps_k n8 h (by omega) (by have := fj_lt (p := p) (i := i) (n - 1); omega) (fun I1 f1 g1 => ?_))⟩
  rw [f1 _ _ (by omega), e1, nlit1, nS n1, nI_add]
  refine ⟨9, turns_86 n8 8 (i + 1) (n - 1) _ I1 (by omega) (by omega) f1 g1 (swf_lt hp (by omega) (by have := fj_lt (p := p) (i := i) (n - 1); omega)) (fun I' f' g' b' => h1 _ I' (by unfold nxf; rw [q]) f' g' b') (by omega)⟩
def alP (a : AN) (p : Nat → Nat) : Prop := ∀ i, i < an a → ard a (p i) = ard a i ∧ ∀ j, j < an a → (alk a (p i)).testBit (p j) = (alk a i).testBit j
theorem bb {b : Bool} {P : Prop} (h : b = true ↔ P) : (P → b = true) ∧ (¬ P → b = false) := ⟨h.mpr, fun q => by cases b; rfl; exact absurd (h.mp rfl) q⟩
theorem nBitE {x y i j : Nat} (hx : x < 2 ^ 31) (hy : y < 2 ^ 31) (hi : i < 32) (hj : j < 32) : ((nI x >>> (nI i &&& 31)) &&& 1 = (nI y >>> (nI j &&& 31)) &&& 1) ↔ x.testBit i = y.testBit j := by
  rw [nBit hx hi, nBit hy hj]
  cases x.testBit i <;> cases y.testBit j <;> simp <;> decide
theorem isAlike_44 {I : HI} {a : AN} {p : Nat → Nat} {i : Nat} (W : WF a) (R : RepM I a) (h : ∀ k, k < an a → I 23 k = nI (p k)) (hp : ∀ k, k < an a → p k < an a) (hi : i < an a) {K : Int32 → Int32 → Prop} {Q : Int32 → Prop} : ∀ d j acc, j + d = an a → (∀ b : Bool, (b = true ↔ acc = true ∧ ∀ j', j ≤ j' → j' < an a → (alk a (p i)).testBit (p j') = (alk a i).testBit j') → K (b01 b) (nI (i + 1))) → M_isAlike_l44 I (nI i) K Q (d + 1) (b01 acc) (nI j) := by
  have n8 := W.2.1
  have h256 := p2le n8
  intro d
  induction d with
  | zero =>
    intro j acc hj hK
    rw [M_isAlike_l44, R.1.1, nI_1]
    exact it (nI_le (by omega) (by omega)) (hK acc ⟨fun q => ⟨q, fun j' h1 h2 => by omega⟩, fun q => q.1⟩)
  | succ d ih =>
    intro j acc hj hK
    have hpi := hp i hi
    have hpj := hp j (by omega)
    have l1 := (W.2.2.2.2.2 (p i) hpi).1
    have l2 := (W.2.2.2.2.2 i hi).1
    rw [M_isAlike_l44, R.1.1, nx_nI (show i < 2 ^ 31 by omega), h i hi, nx_nI (show p i < 2 ^ 31 by omega), nx_nI (show j < 2 ^ 31 by omega), h j (by omega), R.1.2.2.1 (p i) hpi, R.1.2.2.1 i hi]
    simp only [nI_1]
    refine ie (nI_ge (by omega) (by omega)) ?_
    cases acc with
    | false => exact it rfl (ih (j + 1) false (by omega) (fun b hb => hK b (hb.trans ⟨fun q => absurd q.1 (by decide), fun q => absurd q.1 (by decide)⟩)))
    | true =>
      refine ie (by decide) ⟨vin (by omega) (by omega), vin (by omega) (by omega), vin (by omega) (by omega), vin (by omega) (by omega), ic (fun hc => ?_) (fun hc => ?_)⟩
      · rw [nBitE (by omega) (by omega) (by omega) (by omega)] at hc
        refine ih (j + 1) true (by omega) (fun b hb => hK b (hb.trans ⟨fun q => ⟨rfl, fun j' h1 h2 => ?_⟩, fun q => ⟨rfl, fun j' h1 h2 => q.2 j' (by omega) h2⟩⟩))
        by_cases e : j' = j
        · rw [e]; exact hc
        · exact q.2 j' (by omega) h2
      · rw [nBitE (by omega) (by omega) (by omega) (by omega)] at hc
        exact ih (j + 1) false (by omega) (fun b hb => hK b (hb.trans ⟨fun q => absurd q.1 (by decide), fun q => absurd (q.2 j (Nat.le_refl _) (by omega)) hc⟩))
theorem M_isAlike_k {I : HI} {a : AN} {p : Nat → Nat} (W : WF a) (R : RepM I a) (h : ∀ k, k < an a → I 23 k = nI (p k)) (hp : ∀ k, k < an a → p k < an a) {Q : Int32 → Prop} (hQ : ∀ b : Bool, (b = true ↔ alP a p) → Q (b01 b)) : M_isAlike I Q := by
  have n8 := W.2.1
  have key : ∀ d i acc, i + d = an a → (∀ b : Bool, (b = true ↔ acc = true ∧ ∀ i', i ≤ i' → i' < an a → ard a (p i') = ard a i' ∧ ∀ j, j < an a → (alk a (p i')).testBit (p j) = (alk a i').testBit j) → Q (b01 b)) → M_isAlike_l4 I Q (d + 1) (b01 acc) (nI i) := by
    intro d
    induction d with
    | zero =>
      intro i acc hi hK
      rw [M_isAlike_l4, R.1.1]
      refine it (nI_le (by omega) (by omega)) ⟨?_, hK acc ⟨fun q => ⟨q, fun j' h1 h2 => by omega⟩, fun q => q.1⟩⟩
      cases acc
      · exact zb_0
      · exact zb_1
    | succ d ih =>
      intro i acc hi hK
      have hi' : i < an a := by omega
      have hpi := hp i hi'
      have r1 := (W.2.2.2.2.2 (p i) hpi).2.2.1
      have r2 := (W.2.2.2.2.2 i hi').2.2.1
      rw [M_isAlike_l4, R.1.1, nx_nI (show i < 2 ^ 31 by omega), h i hi', nx_nI (show p i < 2 ^ 31 by omega), R.1.2.2.2.1 (p i) hpi, R.1.2.2.2.1 i hi']
      refine ie (nI_ge (by omega) (by omega)) ?_
      cases acc with
      | false => exact it rfl ⟨an a + 1, isAlike_44 W R h hp hi' (an a) 0 false (by omega) (fun b hb => by
          have : b = false := (bb hb).2 (fun q => absurd q.1 (by decide))
          rw [this]
          exact ih (i + 1) false (by omega) (fun b hb => hK b (hb.trans ⟨fun q => absurd q.1 (by decide), fun q => absurd q.1 (by decide)⟩)))⟩
      | true =>
        refine ie (by decide) ⟨vin (by omega) (by omega), vin (by omega) (by omega), vin (by omega) (by omega), ic (fun hc => ?_) (fun hc => ?_)⟩
        · rw [nI_eq (by omega) (by omega)] at hc
          refine ⟨an a + 1, isAlike_44 W R h hp hi' (an a) 0 true (by omega) (fun b hb => ih (i + 1) b (by omega) (fun b' hb' => hK b' (hb'.trans ⟨fun q => ⟨rfl, fun i' h1 h2 => ?_⟩, fun q => ⟨hb.mpr ⟨rfl, fun j' _ h2 => (q.2 i (Nat.le_refl _) hi').2 j' h2⟩, fun i' h1 h2 => q.2 i' (by omega) h2⟩⟩)))⟩
          by_cases e : i' = i
          · rw [e]; exact ⟨hc, fun j hj => (hb.mp q.1).2 j (by omega) hj⟩
          · exact q.2 i' (by omega) h2
        · rw [nI_eq (by omega) (by omega)] at hc
          refine ⟨an a + 1, isAlike_44 W R h hp hi' (an a) 0 false (by omega) (fun b hb => ?_)⟩
          have : b = false := (bb hb).2 (fun q => absurd q.1 (by decide))
          rw [this]
          exact ih (i + 1) false (by omega) (fun b hb => hK b (hb.trans ⟨fun q => absurd q.1 (by decide), fun q => absurd (q.2 i (Nat.le_refl _) hi').1 hc⟩))
  exact ⟨an a + 1, key (an a) 0 true (by omega) (fun b hb => hQ b (hb.trans ⟨fun q i hi => q.2 i (by omega) hi, fun q => ⟨rfl, fun i _ hi => q i hi⟩⟩))⟩
