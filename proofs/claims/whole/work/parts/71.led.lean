/-! the book of rows -/
def mk (a : AN) (h : Nat → Nat) (r : Nat) : Nat := rt a r + 256 * wr a r + (if cts a h r then 65536 else 0)
theorem shl8 : ∀ w, w < 256 → nI w <<< ((8 : Int32) &&& 31) = nI (256 * w) := by decide +kernel
theorem rt8 {a : AN} (W : WF a) (r : Nat) : rt a r < 256 := Nat.lt_of_lt_of_le (rt_lt a r) (p2le W.2.1)
theorem wr8 {a : AN} (W : WF a) (r : Nat) : wr a r < 256 := Nat.lt_of_lt_of_le (wr_lt a r) (p2le W.2.1)
theorem mk_or {x y t : Nat} (hx : x < 256) (hy : y < 256) (ht : t = 0 ∨ t = 65536) : (nI x ||| (nI y <<< ((8 : Int32) &&& 31))) ||| nI t = nI (x + 256 * y + t) := by
  rw [shl8 y hy, nOr, nOr]
  have e1 : x ||| 256 * y = 256 * y + x := by
    rw [Nat.or_comm, show 256 = 2 ^ 8 from rfl, Nat.two_pow_add_eq_or_of_lt (by omega)]
  rw [e1]
  rcases ht with rfl | rfl
  · rw [Nat.or_zero, Nat.add_zero, Nat.add_comm]
  · rw [Nat.or_comm, show 65536 = 2 ^ 16 * 1 from rfl, ← Nat.two_pow_add_eq_or_of_lt (by omega)]
    congr 1; omega
theorem mk_lt {a : AN} {h : Nat → Nat} {r : Nat} (W : WF a) : mk a h r < 2 ^ 31 := by
  have := rt8 W r
  have := wr8 W r
  unfold mk
  split <;> omega
theorem and_p (m i : Nat) : m &&& 2 ^ i = if m.testBit i then 2 ^ i else 0 := by
  apply Nat.eq_of_testBit_eq
  intro j
  rw [Nat.testBit_and, Nat.testBit_two_pow]
  by_cases e : i = j
  · subst e
    cases m.testBit i <;> simp
  · cases m.testBit i <;> simp [e, Nat.testBit_two_pow]
theorem mk_cts {a : AN} {h : Nat → Nat} {r : Nat} (W : WF a) : (nI (mk a h r) &&& 65536 = 0 ↔ cts a h r = false) := by
  have h1 := rt8 W r
  have h2 := wr8 W r
  rw [show (65536 : Int32) = nI (2 ^ 16) from rfl, nAnd, and_p, Nat.testBit_eq_decide_div_mod_eq]
  unfold mk
  cases cts a h r with
  | true =>
    rw [if_pos rfl, show (rt a r + 256 * wr a r + 65536) / 2 ^ 16 % 2 = 1 by omega]
    exact ⟨fun q => absurd q (by decide), fun q => by cases q⟩
  | false =>
    rw [if_neg (show ¬ (false = true) by decide), show (rt a r + 256 * wr a r + 0) / 2 ^ 16 % 2 = 0 by omega]
    exact ⟨fun _ => rfl, fun _ => rfl⟩
theorem mk_rt {a : AN} {h : Nat → Nat} {r : Nat} (W : WF a) : nI (mk a h r) &&& 255 = nI (rt a r) := by
  have h1 := rt8 W r
  have h2 := wr8 W r
  rw [show (255 : Int32) = nI (2 ^ 8 - 1) from rfl, nAnd, Nat.and_two_pow_sub_one_eq_mod]
  congr 1
  unfold mk
  split <;> omega
theorem mk_wr {a : AN} {h : Nat → Nat} {r : Nat} (W : WF a) : (nI (mk a h r) >>> ((8 : Int32) &&& 31)) &&& 255 = nI (wr a r) := by
  have h1 := rt8 W r
  have h2 := wr8 W r
  rw [show (8 : Int32) = nI 8 from rfl, nShr (mk_lt W) (by omega), show (255 : Int32) = nI (2 ^ 8 - 1) from rfl, nAnd, Nat.and_two_pow_sub_one_eq_mod]
  congr 1
  unfold mk
  split <;> omega
theorem mk_bit {a : AN} {h : Nat → Nat} {r w : Nat} (W : WF a) (hw : w < 8) : (nI (mk a h r) >>> (nI w &&& 31)) &&& 1 = (nI (rt a r) >>> (nI w &&& 31)) &&& 1 := by
  have h1 := rt8 W r
  have h2 := wr8 W r
  rw [nShr (mk_lt W) (by omega), nShr (by omega) (by omega), show (1 : Int32) = nI (2 ^ 1 - 1) from rfl, nAnd, nAnd, Nat.and_two_pow_sub_one_eq_mod, Nat.and_two_pow_sub_one_eq_mod]
  congr 1
  unfold mk
  rcases (show w = 0 ∨ w = 1 ∨ w = 2 ∨ w = 3 ∨ w = 4 ∨ w = 5 ∨ w = 6 ∨ w = 7 by omega) with rfl | rfl | rfl | rfl | rfl | rfl | rfl | rfl <;> split <;> omega
/-- only what lies about of the rows and the book is new -/
def leP (own : Nat → Nat) : Nat → Nat → Prop := fun b i => b = 21 ∨ b = 22 ∨ b = 25 ∨ own b = 3 ∨ b = 27 ∨ b = 26 ∧ i = 1
theorem InvB.led {own h : Nat → Nat} {a : AN} {ro : Nat} {I I' : HI} {T F : HR} {L : HL} {IM IM' : HI} (B : InvB own h a ro I T F L IM) (f : Fr (leP own) I I') (hl : LedI a h I') (fm : Fr (fun b i => (17 ≤ b ∧ b ≤ 22) ∨ b = 0 ∧ (i = 0 ∨ i = 40)) IM IM') (hw : WorI a IM') : InvB own h a ro I' T F L IM' := by
  obtain ⟨b1, b2, b3, b4, b5, b6, b7⟩ := B
  have nz := nz_own b7.1
  have o56 := b7.1.1
  unfold leP at f
  refine ⟨b1, b2.eq (fun b i hb => fm _ _ (by omega)), b3.eq (fun j i hj => f _ _ (by have := o56 (1 + j) (by omega); omega)), b4.fr (fun b i hb => f _ _ (by have := nz b; omega)) (fun _ _ => rfl) b1.2.1 Ext.rf, hw, hl, b7.fr (fun b i hb => ?_) (fun _ _ _ => rfl) Ext.rf (fun b i hb => fm _ _ (by unfold RM at hb; omega))⟩
  have := nz b
  have := o56 b
  unfold RC at hb
  exact f _ _ (by omega)
def Bok (a : AN) (h : Nat → Nat) (I : HI) : Prop := ∀ r, r < aq a ^ an a → I 27 r = nI (mk a h r)
theorem Led_fill_k {own h : Nat → Nat} {a : AN} {ro : Nat} {I : HI} {T F : HR} {L : HL} {IM : HI} (B : InvB own h a ro I T F L IM) {Q : HI → Prop} (hQ : ∀ I', Fr (leP own) I I' → CN I' 1 a → LedI a h I' → Bok a h I' → Q I') : Led_fill I T F L 1 20 Q := by
  obtain ⟨W, R, N, C, b5, b6, b7⟩ := B
  have n8 := W.2.1
  have q2 := W.2.2.1
  have r5 := W.2.2.2.2.1
  have nz := nz_own b7.1
  have o56 := b7.1.1
  have hp : 1 ≤ aq a ^ an a := Nat.pow_pos (by omega)
  have fin : ∀ J, Fr (leP own) I J → Bok a h J → Q (up2 J 26 1 1) := fun J f hb => by
    have f' : Fr (leP own) I (up2 J 26 1 1) := f.up (by unfold leP; omega)
    have hb' : Bok a h (up2 J 26 1 1) := fun r hr => (up2_get J 26 1 27 r 1).trans ((if_neg (by omega)).trans (hb r hr))
    exact hQ _ f' (N.eq (fun j i hj => f' _ _ (by have := o56 (1 + j) (by omega); unfold leP; omega))) (Or.inr ⟨up2_same _ _ _ _, hb'⟩) hb'
  rcases b6 with e26 | ⟨e26, hb⟩
  · have key : ∀ d r J, r + d = aq a ^ an a → Fr (leP own) I J → J 26 1 = 0 → (∀ r', r' < r → J 27 r' = nI (mk a h r')) → Led_fill_l3 T F L 1 20 Q (d + 1) J (nI r) := by
      intro d
      induction d with
      | zero =>
        intro r J hr f e hb
        have NJ : CN J 1 a := N.eq (fun j i hj => f _ _ (by have := o56 (1 + j) (by omega); unfold leP; omega))
        rw [Led_fill_l3, NJ.2.2.1]
        exact it (nI_le (by omega) (by omega)) (fin J f (fun r' hr' => hb r' (by omega)))
      | succ d ih =>
        intro r J hr f e hb
        have NJ : CN J 1 a := N.eq (fun j i hj => f _ _ (by have := o56 (1 + j) (by omega); unfold leP; omega))
        rw [Led_fill_l3, NJ.2.2.1, e]
        refine ie (nI_ge (by omega) (by omega)) (it rfl (Sc_dress_k NJ.1 NJ.2.1 (by omega) n8 W.2.2.1 W.2.2.2.1 (by omega) (fun I1 f1 hh => ?_)))
        have hh : ∀ w, w < an a → I1 21 w = nI (hat a r w) := hh
        have f1' : Fr (leP own) I I1 := f.tr (f1.mono (fun b i hb => by unfold leP; omega))
        have N1 : CN I1 1 a := N.eq (fun j i hj => f1' _ _ (by have := o56 (1 + j) (by omega); unfold leP; omega))
        have D1 : CT I1 T F L own 1 a := C.fr (fun b i hb => f1' _ _ (by have := nz b; unfold leP; omega)) (fun _ _ => rfl) n8 Ext.rf
        refine Sc_guessAll_k W N1 D1 hh ⟨by rw [o56 21 (by omega)]; decide, o56 22 (by omega)⟩ (fun j hj => by omega) (fun k _ => hat_lt W r k) (fun I2 f2 hg => ?_)
        have hg : ∀ w, w < an a → I2 22 w = nI (gs a (hat a r) w) := hg
        have f2' : Fr (leP own) I I2 := f1'.tr (f2.mono (fun b i hb => by unfold scP at hb; unfold leP; omega))
        have N2 : CN I2 1 a := N.eq (fun j i hj => f2' _ _ (by have := o56 (1 + j) (by omega); unfold leP; omega))
        have hh2 : ∀ w, w < an a → I2 21 w = nI (hat a r w) := fun w hw => (f2 _ _ (by have := o56 21 (by omega); unfold scP; omega)).trans (hh w hw)
        rw [N2.1]
        refine weigh_pos (H := h) W (fun c hc => ⟨?_, (b7.2.2.2.1.1 c hc).2.2⟩) (by omega) hh2 (fun I3 z f3 hz => ?_)
        · exact (f2' _ _ (by have := o56 24 (by omega); unfold leP; omega)).trans (b7.2.2.2.1.1 c hc).1
        have f3' : Fr (leP own) I I3 := f2'.tr (f3.mono (fun b i hb => by unfold leP; omega))
        have N3 : CN I3 1 a := N.eq (fun j i hj => f3' _ _ (by have := o56 (1 + j) (by omega); unfold leP; omega))
        have hh3 : ∀ w, w < an a → I3 21 w = nI (hat a r w) := fun w hw => (f3 _ _ (by omega)).trans (hh2 w hw)
        have hg3 : ∀ w, w < an a → I3 22 w = nI (gs a (hat a r) w) := fun w hw => (f3 _ _ (by omega)).trans (hg w hw)
        have e3 : ∀ b i, b = 26 ∨ b = 27 → I3 b i = J b i := fun b i hb => ((f3 _ _ (by omega)).trans (f2 _ _ (by have := o56 b (by omega); unfold scP; omega))).trans (f1 _ _ (by omega))
        have go : ∀ t, t = (if cts a h r then 65536 else 0) → Led_fill_b51 I3 T F L 1 20 (nI r) (nI t) (fun I' x4' => Led_fill_l3 T F L 1 20 Q (d + 1) I' x4') Q := by
          intro t ht
          unfold Led_fill_b51
          refine Sc_right_k W N3.1 hh3 hg3 (hat4 W) (gs4 W) (Sc_wrong_k W N3.1 N3.2.1 hh3 hg3 (hat4 W) (gs4 W) ⟨vin (by omega) (by omega), ?_⟩)
          rw [nx_nI (by omega), nI_1, show rts a (hat a r) (gs a (hat a r)) = rt a r from rfl, show wrs a (hat a r) (gs a (hat a r)) = wr a r from rfl, mk_or (rt8 W r) (wr8 W r) (by rw [ht]; split; exact Or.inr rfl; exact Or.inl rfl)]
          refine ih (r + 1) _ (by omega) (f3'.up (by unfold leP; omega)) ?_ (fun r' hr' => ?_)
          · exact (up2_get I3 27 r 26 1 _).trans ((if_neg (by omega)).trans ((e3 _ _ (Or.inl rfl)).trans e))
          · rw [up2_get]
            by_cases hc : r' = r
            · rw [if_pos ⟨rfl, hc⟩, hc, ht]; rfl
            · rw [if_neg (by omega), e3 _ _ (Or.inr rfl)]; exact hb r' (by omega)
        refine ic (fun hc => ?_) (fun hc => ?_)
        · rw [hz] at hc; exact go 0 (by rw [hc]; rfl)
        · rw [hz] at hc; exact go 65536 (by cases e : cts a h r; exact absurd e hc; rfl)
    exact ⟨aq a ^ an a + 1, key (aq a ^ an a) 0 I (by omega) Fr.rf e26 (fun r hr => by omega)⟩
  · refine ⟨1, ?_⟩
    rw [Led_fill_l3, N.2.2.1, e26]
    exact ie (nI_ge (a := 0) (by omega) (by omega)) (ie (by decide) (fin I Fr.rf hb))
theorem Led_counts_k {a : AN} {h : Nat → Nat} {I : HI} {r : Nat} (W : WF a) (b : Bok a h I) (hr : r < aq a ^ an a) {Q : Int32 → Prop} (hq : Q (b01 (cts a h r))) : Led_counts I (nI r) Q := by
  have r5 := W.2.2.2.2.1
  unfold Led_counts
  rw [nx_nI (by omega), b r hr]
  refine ⟨vin (by omega) (by omega), ic (fun hc => ?_) (fun hc => ?_)⟩
  · rw [mk_cts W] at hc; rw [hc] at hq; exact hq
  · rw [mk_cts W] at hc
    have : cts a h r = true := by cases e : cts a h r; exact absurd e hc; rfl
    rw [this] at hq; exact hq
def won9 (a : AN) (lw k : Nat) (r : Nat) : Bool := wonB lw k (an a) (pop (rt a r)) (decide (wr a r = 0))
theorem zb_b01 (b : Bool) : zb (b01 b) := by cases b; exact zb_0; exact zb_1
theorem Led_isWon_k {a : AN} {h : Nat → Nat} {I : HI} {r lw k : Nat} (W : WF a) (b : Bok a h I) (hr : r < aq a ^ an a) (e4 : I 23 1 = nI lw) (e5 : I 23 2 = nI k) (hlw : lw ≤ 3) (hk : k ≤ 8) {Q : Int32 → Prop} (hq : Q (b01 (won9 a lw k r))) : Led_isWon I (nI r) (nI (an a)) Q := by
  have r5 := W.2.2.2.2.1
  unfold Led_isWon
  rw [nx_nI (by omega), b r hr, mk_rt W, mk_wr W]
  exact ⟨vin (by omega) (by omega), vin (by omega) (by omega), Jud_isWon_k e4 e5 hlw hk W.2.1 (rt_lt a r) (wr_lt a r) ⟨zb_b01 _, hq⟩⟩
theorem Led_wrongIn_k {a : AN} {h : Nat → Nat} {I : HI} {r : Nat} (W : WF a) (b : Bok a h I) (hr : r < aq a ^ an a) {Q : Int32 → Prop} (hq : Q (nI (pop (wr a r)))) : Led_wrongIn I (nI r) Q := by
  have r5 := W.2.2.2.2.1
  unfold Led_wrongIn
  rw [nx_nI (by omega), b r hr, mk_wr W]
  exact ⟨vin (by omega) (by omega), Jd_bit_k (wr8 W r) hq⟩
