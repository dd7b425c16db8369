/-! beaten, worst -/
def fnd (p : Nat → Bool) (x : Int32) : Nat → Nat → Nat → Int32
  | 0, _, _ => -1
  | d + 1, c, r => if p r then (if nI c = x then nI r else fnd p x d (c + 1) (r + 1)) else fnd p x d c (r + 1)
theorem fnd_neg {p : Nat → Bool} {x : Int32} (hx : x < 0) : ∀ d c r, c + d < 2 ^ 31 → fnd p x d c r = -1
  | 0, _, _, _ => rfl
  | d + 1, c, r, h => by
    have h1 := fnd_neg (p := p) hx d (c + 1) (r + 1) (by omega)
    have h2 := fnd_neg (p := p) hx d c (r + 1) (by omega)
    rw [fnd, h1, h2]
    by_cases e : p r = true
    · rw [if_pos e, if_neg (fun q => by rw [← q] at hx; exact absurd hx (nI_pos (by omega)))]
    · rw [if_neg e]
def btn (a : AN) (h : Nat → Nat) (lw k : Nat) : Nat → Bool := fun r => cts a h r && !won9 a lw k r
theorem beat_c {a : AN} {h : Nat → Nat} {lw k : Nat} {I : HI} {x : Int32} (D : TwC a h lw k I) {Q : Int32 → Prop} : ∀ d c r, r + d = aq a ^ an a → Q (fnd (btn a h lw k) x d c r) → Led_rowBeaten_l6 I 1 x Q (d + 1) (nI c) (nI r) := by
  have r5 := D.1.2.2.2.2.1
  intro d
  induction d with
  | zero =>
    intro c r hr hq
    rw [Led_rowBeaten_l6, D.2.1.2.2.1]
    exact it (nI_le (by omega) (by omega)) hq
  | succ d ih =>
    intro c r hr hq
    rw [fnd] at hq
    rw [Led_rowBeaten_l6, D.2.1.2.2.1]
    simp only [nI_1]
    refine ie (nI_ge (by omega) (by omega)) (D.c (by omega) (fun hc => it rfl ?_) (fun hc => ie (by decide) (D.w (by omega) (fun hw => it rfl ?_) (fun hw => ie (by decide) ?_))))
    · rw [if_neg (by unfold btn; simp [hc])] at hq; exact ih c (r + 1) (by omega) hq
    · rw [if_pos (by unfold btn; simp [hc, hw])] at hq
      refine ic (fun e => ?_) (fun e => ?_)
      · rw [if_pos e] at hq; exact hq
      · rw [if_neg e] at hq; exact ih (c + 1) (r + 1) (by omega) hq
    · rw [if_neg (by unfold btn; simp [hw])] at hq; exact ih c (r + 1) (by omega) hq
theorem beat_m {a : AN} {h : Nat → Nat} {lw k : Nat} {IM : HI} {x : Int32} (hx : ¬ x < 0) (D : TwM a h lw k IM) {Q : Int32 → HI → Prop} : ∀ d c r, r + d = aq a ^ an a → Q (fnd (btn a h lw k) x d c r) IM → M_beaten_l13 IM x Q (d + 1) (nI c) (nI r) := by
  have r5 := D.1.2.2.2.2.1
  intro d
  induction d with
  | zero =>
    intro c r hr hq
    rw [M_beaten_l13, D.2.1.2.1]
    exact it (nI_le (by omega) (by omega)) hq
  | succ d ih =>
    intro c r hr hq
    rw [fnd] at hq
    rw [M_beaten_l13, D.2.1.2.1]
    simp only [nI_1]
    refine ie (nI_ge (by omega) (by omega)) (ie hx (D.c (by omega) (fun hc => it rfl ?_) (fun hc => ie (by decide) ⟨vin (by omega) (by omega), vin (by omega) (by omega), D.w (by omega) (fun hw => it rfl ?_) (fun hw => ie (by decide) ?_)⟩)))
    · rw [if_neg (by unfold btn; simp [hc])] at hq; exact ih c (r + 1) (by omega) hq
    · rw [if_pos (by unfold btn; simp [hc, hw])] at hq
      refine ic (fun e => ?_) (fun e => ?_)
      · rw [if_pos e] at hq; exact hq
      · rw [if_neg e] at hq; exact ih (c + 1) (r + 1) (by omega) hq
    · rw [if_neg (by unfold btn; simp [hw])] at hq; exact ih c (r + 1) (by omega) hq
theorem beat_n {a : AN} {h : Nat → Nat} {lw k : Nat} {IM : HI} {x : Int32} (hx : x < 0) (D : TwM a h lw k IM) {Q : Int32 → HI → Prop} (hq : Q (fnd (btn a h lw k) x (aq a ^ an a) 0 0) IM) : M_beaten_l13 IM x Q 1 0 0 := by
  have r5 := D.1.2.2.2.2.1
  rw [fnd_neg hx _ _ _ (by omega)] at hq
  rw [M_beaten_l13]
  exact ic (fun _ => hq) (fun _ => it hx hq)
theorem st_beaten {ro : Nat} {x1 : Int32} {I : HI} {J : HJ} {T F : HR} {L : HL} {IM : HI} {JM : HJ} (hI : Inv ro (I, J, T, F, L) IM JM) : St_beaten x1 I J T F L ro IM JM (Inv ro) := by
  obtain ⟨own, h, a, B⟩ := Inv_el hI
  unfold St_beaten H_beaten M_beaten
  refine two_k B (fun I' lw k D hM => ⟨aq a ^ an a + 1, beat_c D _ 0 0 (by omega) (hM (fun IM' DM B' h0 => ?_))⟩)
  by_cases hx : x1 < 0
  · exact ⟨1, beat_n hx DM ⟨rfl, Inv_mk B'⟩⟩
  · exact ⟨aq a ^ an a + 1, beat_m hx DM _ 0 0 (by omega) ⟨rfl, Inv_mk B'⟩⟩
/-! worst -/
def enc : Option Nat → Int32
  | none => -1
  | some b => nI b
def pick (v : Nat → Nat) : Option Nat → Nat → Option Nat
  | none, r => some r
  | some b, r => if v r ≤ v b then some b else some r
def wst (p : Nat → Bool) (v : Nat → Nat) : Nat → Option Nat → Nat → Option Nat
  | 0, b, _ => b
  | d + 1, b, r => wst p v d (if p r then pick v b r else b) (r + 1)
theorem pick_lt {v : Nat → Nat} {n r : Nat} {b : Option Nat} (hr : r < n) (hb : ∀ x, b = some x → x < n) : ∀ x, pick v b r = some x → x < n := by
  intro x e
  cases b with
  | none => cases e; exact hr
  | some b =>
    unfold pick at e
    dsimp only at e
    by_cases hv : v r ≤ v b
    · rw [if_pos hv] at e; exact hb x e
    · rw [if_neg hv] at e; cases e; exact hr
theorem wst_lt {p : Nat → Bool} {v : Nat → Nat} {n : Nat} : ∀ d b r, r + d = n → (∀ x, b = some x → x < n) → ∀ x, wst p v d b r = some x → x < n
  | 0, b, r, _, hb, x, e => hb x e
  | d + 1, b, r, h, hb, x, e => by
    rw [wst] at e
    refine wst_lt d _ (r + 1) (by omega) ?_ x e
    split
    · exact pick_lt (by omega) hb
    · exact hb
theorem nI_nm1 {n : Nat} (h : n < 2 ^ 31) : ¬ nI n = -1 := fun e => absurd (nI_pos h) (by rw [e]; decide)
theorem pop8 (m : Nat) : pop m ≤ 8 := cnt_le' _ 8
theorem worst_c {a : AN} {h : Nat → Nat} {lw k : Nat} {I : HI} (D : TwC a h lw k I) {Q : Int32 → Prop} : ∀ d b r, r + d = aq a ^ an a → (∀ x, b = some x → x < aq a ^ an a) → Q (enc (wst (cts a h) (fun r => pop (wr a r)) d b r)) → Led_worstRow_l4 I 1 Q (d + 1) (enc b) (nI r) := by
  have r5 := D.1.2.2.2.2.1
  intro d
  induction d with
  | zero =>
    intro b r hr hb hq
    rw [Led_worstRow_l4, D.2.1.2.2.1]
    exact it (nI_le (by omega) (by omega)) hq
  | succ d ih =>
    intro b r hr hb hq
    rw [wst] at hq
    rw [Led_worstRow_l4, D.2.1.2.2.1]
    simp only [nI_1]
    have hr' : ∀ x, some r = some x → x < aq a ^ an a := fun x q => by cases q; omega
    refine ie (nI_ge (by omega) (by omega)) (D.c (by omega) (fun hc => it rfl ?_) (fun hc => ie (by decide) ?_))
    · rw [if_neg (by simp [hc])] at hq; exact ih b (r + 1) (by omega) hb hq
    · rw [if_pos hc] at hq
      cases b with
      | none => exact it rfl (ih (some r) (r + 1) (by omega) hr' hq)
      | some b =>
        have hb' := hb b rfl
        unfold pick at hq
        dsimp only at hq
        have := pop8 (wr a r)
        have := pop8 (wr a b)
        refine ie (nI_nm1 (by omega)) (Led_wrongIn_k D.1 D.2.2.1 (by omega) (Led_wrongIn_k D.1 D.2.2.1 hb' ?_))
        by_cases hv : pop (wr a r) ≤ pop (wr a b)
        · rw [if_pos hv] at hq; exact it (nI_le hv (by omega)) (ih (some b) (r + 1) (by omega) hb hq)
        · rw [if_neg hv] at hq; exact ie (nI_ge (by omega) (by omega)) (ih (some r) (r + 1) (by omega) hr' hq)
theorem worst_m {a : AN} {h : Nat → Nat} {lw k : Nat} {IM : HI} (D : TwM a h lw k IM) {Q : Int32 → HI → Prop} : ∀ d b r, r + d = aq a ^ an a → (∀ x, b = some x → x < aq a ^ an a) → Q (enc (wst (cts a h) (fun r => pop (wr a r)) d b r)) IM → M_worstRow_l8 IM Q (d + 1) (enc b) (nI r) := by
  have r5 := D.1.2.2.2.2.1
  intro d
  induction d with
  | zero =>
    intro b r hr hb hq
    rw [M_worstRow_l8, D.2.1.2.1]
    exact it (nI_le (by omega) (by omega)) hq
  | succ d ih =>
    intro b r hr hb hq
    rw [wst] at hq
    rw [M_worstRow_l8, D.2.1.2.1]
    simp only [nI_1]
    have hr' : ∀ x, some r = some x → x < aq a ^ an a := fun x q => by cases q; omega
    refine ie (nI_ge (by omega) (by omega)) (D.c (by omega) (fun hc => it rfl ?_) (fun hc => ie (by decide) ?_))
    · rw [if_neg (by simp [hc])] at hq; exact ih b (r + 1) (by omega) hb hq
    · rw [if_pos hc] at hq
      cases b with
      | none => exact it rfl (ih (some r) (r + 1) (by omega) hr' hq)
      | some b =>
        have hb' := hb b rfl
        unfold pick at hq
        dsimp only at hq
        have := pop8 (wr a r)
        have := pop8 (wr a b)
        show (if nI b = -1 then _ else _)
        refine ie (nI_nm1 (by omega)) ?_
        simp only [show enc (some b) = nI b from rfl]
        rw [nx_nI (show r < 2 ^ 31 by omega), nx_nI (show b < 2 ^ 31 by omega), (D.2.2.1 r (by omega)).2.1, (D.2.2.1 b hb').2.1]
        refine ⟨vin (by omega) (by omega), M_bits_k (wr8 D.1 r) ⟨vin (by omega) (by omega), M_bits_k (wr8 D.1 b) ?_⟩⟩
        by_cases hv : pop (wr a r) ≤ pop (wr a b)
        · rw [if_pos hv] at hq; exact it (nI_le hv (by omega)) (ih (some b) (r + 1) (by omega) hb hq)
        · rw [if_neg hv] at hq; exact ie (nI_ge (by omega) (by omega)) (ih (some r) (r + 1) (by omega) hr' hq)
theorem M_worst_n {IM : HI} {x : Int32} {Q : Int32 → HI → Prop} (h0 : ¬ x = 0) (h1 : ¬ x = 1) (hq : Q 0 (up2 (up2 IM 0 0 0) 0 0 1)) : M_worst IM x Q := by
  unfold M_worst M_worst_b20
  exact ie h0 (ie h1 (M_right_n (up00 _ _) (it rfl hq)))
def wo (a : AN) (h : Nat → Nat) : Option Nat := wst (cts a h) (fun r => pop (wr a r)) (aq a ^ an a) none 0
def wov (a : AN) (h : Nat → Nat) (x : Nat) : Int32 := if x = 1 then enc (wo a h) else match wo a h with
  | none => -1
  | some b => nI (pop (wr a b))
theorem M_worst_y {a : AN} {h : Nat → Nat} {IM : HI} {lw k x : Nat} (hx : x ≤ 1) {Pp : HI → Prop} (hM : ∀ {P : HI → Prop}, (∀ IM', TwM a h lw k IM' → Pp IM' → P IM') → M_worksAll (up2 IM 0 0 0) P) {Q : Int32 → HI → Prop} (hq : ∀ IM', Pp IM' → Q (wov a h x) IM') : M_worst IM (nI x) Q := by
  have key : M_worst_b20 (up2 IM 0 0 0) (nI x) 1 Q := by
    unfold M_worst_b20 M_worstRow
    refine M_right_y (up00 _ _) (ie (by decide) (hM (fun IM' D p => ⟨aq a ^ an a + 1, worst_m D _ none 0 (by omega) (fun x q => by cases q) ?_⟩)))
    have hq := hq IM' p
    have r5 := D.1.2.2.2.2.1
    unfold wov at hq
    rw [show wst (cts a h) (fun r => pop (wr a r)) (aq a ^ an a) none 0 = wo a h from rfl]
    rcases (show x = 1 ∨ x = 0 by omega) with rfl | rfl
    · rw [if_pos rfl] at hq; exact it rfl hq
    · rw [if_neg (by decide)] at hq
      refine ie (by decide) ?_
      cases e : wo a h with
      | none => rw [e] at hq; exact it rfl hq
      | some b =>
        rw [e] at hq
        have hb : b < aq a ^ an a := wst_lt _ none 0 (by omega) (fun x q => by cases q) b e
        simp only [show enc (some b) = nI b from rfl]
        rw [nx_nI (show b < 2 ^ 31 by omega), (D.2.2.1 b hb).2.1]
        exact ie (nI_nm1 (by omega)) ⟨vin (by omega) (by omega), M_bits_k (wr8 D.1 b) hq⟩
  unfold M_worst
  rcases (show x = 1 ∨ x = 0 by omega) with rfl | rfl
  · exact ie (by decide) (it rfl key)
  · exact it rfl key
theorem st_worst {ro : Nat} {x1 : Int32} {I : HI} {J : HJ} {T F : HR} {L : HL} {IM : HI} {JM : HJ} (hI : Inv ro (I, J, T, F, L) IM JM) : St_worst x1 I J T F L ro IM JM (Inv ro) := by
  obtain ⟨own, h, a, B⟩ := Inv_el hI
  have B0 := B
  obtain ⟨W, R, N, C, b5, b6, b7⟩ := B
  have hro := b7.1.2.2.2.1
  have r5 := W.2.2.2.2.1
  unfold St_worst L_worst H_worst H_worst_b9
  rcases xcase x1 (n := 1) (by omega) with ⟨x, hx, rfl⟩ | hx
  · refine ie (nI_pos (by omega)) (it (nI_le (b := 1) hx (by omega)) (two_k B0 (fun I' lw k D hM => ⟨aq a ^ an a + 1, worst_c D _ none 0 (by omega) (fun x q => by cases q) ?_⟩)))
    have hM' := fun {Q : Int32 → HI → Prop} => M_worst_y (x := x) (Pp := fun IM' => InvB own h a ro I' T F L IM' ∧ IM' 0 0 = 0) hx (fun {P} hP => hM (fun IM' p b e => hP IM' p ⟨b, e⟩)) (Q := Q)
    have fin : ∀ y, y = wov a h x → (ro, 4, 1) ∈ (I', up2 J ro 0 (Int32.toInt64 y), T, F, L).2.2.2.2 ∧ M_worst IM (nI x) (fun rb IM2 => M_thrown IM2 fun rt => rt = 0 ∧ ((0 : Int32) = 0 → (I', up2 J ro 0 (Int32.toInt64 y), T, F, L).2.1 ro 0 = Int32.toInt64 rb) ∧ Inv ro (I', up2 J ro 0 (Int32.toInt64 y), T, F, L) IM2 JM) := fun y e => ⟨hro, hM' (fun IM' p => fin_ok2 p.1 p.2 e)⟩
    rw [show wst (cts a h) (fun r => pop (wr a r)) (aq a ^ an a) none 0 = wo a h from rfl]
    rcases (show x = 1 ∨ x = 0 by omega) with rfl | rfl
    · exact it rfl (fin _ rfl)
    · refine ie (by decide) ?_
      have ew : wov a h 0 = match wo a h with
        | none => -1
        | some b => nI (pop (wr a b)) := rfl
      cases e : wo a h with
      | none => exact it rfl (fin _ (by rw [ew, e]; rfl))
      | some b =>
        have hb : b < aq a ^ an a := wst_lt _ none 0 (by omega) (fun x q => by cases q) b e
        exact ie (nI_nm1 (n := b) (by omega)) (Led_wrongIn_k D.1 D.2.2.1 hb (fin _ (by rw [ew, e])))
  · have h9 : ∀ {P : Int32 → Prop}, (ro, 4, 1) ∈ (I, J, T, F, L).2.2.2.2 ∧ M_worst IM x1 (fun rb IM2 => M_thrown IM2 fun rt => rt = 1 ∧ ((1 : Int32) = 0 → P rb) ∧ Inv ro (I, J, T, F, L) IM2 JM) := fun {P} => ⟨hro, M_worst_n (xno (n := 1) (k := 0) (by omega) hx (by omega)) (xno (n := 1) (k := 1) (by omega) hx (by omega)) (fin_no B0 (Fr01 IM) (up00' _))⟩
    rcases hx with h0 | ⟨h0, h1⟩
    · exact it h0 h9
    · exact ie h0 (ie (nle_of_lt h1) h9)
