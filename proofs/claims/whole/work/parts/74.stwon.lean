/-! won -/
def ffz (H : Nat → Nat) (c : Nat) : Nat → Int
  | 0 => 1
  | m + 1 => ffz H c m * ((H c : Int) - (m : Int))
def prz (f : Nat → Int) : Nat → Int
  | 0 => 1
  | q + 1 => prz f q * f q
theorem prz_step (H h : Nat → Nat) (n : Nat) : ∀ q, prz (fun c => ffz H c (cnt (fun w => decide (h w = c)) (n + 1))) q = prz (fun c => ffz H c (cnt (fun w => decide (h w = c)) n)) q * (if h n < q then (H (h n) : Int) - (cnt (fun w => decide (h w = h n)) n : Int) else 1)
  | 0 => by rw [if_neg (by omega)]; rfl
  | q + 1 => by
    have ih := prz_step H h n q
    show prz _ q * ffz H q (cnt (fun w => decide (h w = q)) (n + 1)) = (prz _ q * ffz H q (cnt (fun w => decide (h w = q)) n)) * _
    rw [ih, cnt_h_succ]
    by_cases e : h n = q
    · rw [if_pos e, if_neg (by omega), if_pos (by omega), e, ffz, Int.mul_one, Int.mul_assoc]
    · rw [if_neg e]
      by_cases e2 : h n < q
      · rw [if_pos e2, if_pos (by omega), Int.mul_assoc, Int.mul_assoc, Int.mul_comm (ffz H q _)]
      · rw [if_neg e2, if_neg (by omega), Int.mul_one, Int.mul_one]
theorem wyz_prz {H h : Nat → Nat} {q : Nat} : ∀ n, (∀ k, k < n → h k < q) → wyz H h n = prz (fun c => ffz H c (cnt (fun w => decide (h w = c)) n)) q
  | 0, _ => by
    have : ∀ q, prz (fun c => ffz H c (cnt (fun w => decide (h w = c)) 0)) q = 1 := by
      intro q
      induction q with
      | zero => rfl
      | succ q ih => rw [prz, ih]; rfl
    rw [this]; rfl
  | n + 1, hh => by
    rw [wyz, wyz_prz n (fun k hk => hh k (by omega)), prz_step, if_pos (hh n (by omega))]
def wgt (a : AN) (h : Nat → Nat) (r : Nat) : Int := wyz h (hat a r) (an a)
theorem M_weight_k {a : AN} {h : Nat → Nat} {lw k : Nat} {IM : HI} (D : TwM a h lw k IM) {r : Nat} (hr : r < aq a ^ an a) {Q : Int64 → Prop} (hq : Q (Int64.ofInt (wgt a h r))) : M_weight IM (nI r) Q := by
  obtain ⟨W, R, hd, hH, _⟩ := D
  have r5 := W.2.2.2.2.1
  have q4 := W.2.2.2.1
  have n8 := W.2.1
  have ew : wgt a h r = prz (fun c => ffz h c (many a r c)) (aq a) := wyz_prz (an a) (fun k _ => hat_lt W r k)
  rw [ew] at hq
  have inner : ∀ (K : Int64 → Int32 → Prop) c (P : Int), c < aq a → K (Int64.ofInt (P * ffz h c (many a r c))) (nI (c + 1)) → ∀ d j, j + d = many a r c → M_weight_l17 IM (nI r) (nI c) K Q (d + 1) (Int64.ofInt (P * ffz h c j)) (nI j) := by
    intro K c P hc hK d
    have hm : many a r c ≤ an a := cnt_le _ _
    induction d with
    | zero =>
      intro j hj
      have : j = many a r c := by omega
      subst this
      rw [M_weight_l17, nI_1]
      exact M_many_k W R.1.1 R.1.2.1 (by omega) (by omega) (it (nI_le (by omega) (by omega)) hK)
    | succ d ih =>
      intro j hj
      have ih := ih (j + 1) (by omega)
      have h9 := (hH c (by omega)).2
      rw [M_weight_l17]
      refine M_many_k W R.1.1 R.1.2.1 (by omega) (by omega) (ie (nI_ge (by omega) (by omega)) ⟨vin (by omega) (by omega), ?_⟩)
      have es : Int32.toInt64 (nI (h c) - nI j) = Int64.ofInt ((h c : Int) - (j : Int)) := by
        rw [nI_int, nI_int, ← Int32.ofInt_sub, i64_of (by omega) (by omega)]
      rw [nx_nI (by omega), (hH c (by omega)).1, nI_1, es, ← Int64.ofInt_mul, Int.mul_assoc]
      exact ih
  have outer : ∀ d c, c + d = aq a → M_weight_l5 IM (nI r) Q (d + 1) (Int64.ofInt (prz (fun c => ffz h c (many a r c)) c)) (nI c) := by
    intro d
    induction d with
    | zero =>
      intro c hc
      have : c = aq a := by omega
      subst this
      rw [M_weight_l5, R.1.2.1]
      exact it (nI_le (by omega) (by omega)) hq
    | succ d ih =>
      intro c hc
      have g := inner (fun x2' x4' => M_weight_l5 IM (nI r) Q (d + 1) x2' x4') c (prz (fun c => ffz h c (many a r c)) c) (by omega) (ih (c + 1) (by omega)) (many a r c) 0 (by omega)
      rw [show ffz h c 0 = 1 from rfl, Int.mul_one] at g
      rw [M_weight_l5, R.1.2.1]
      exact ie (nI_ge (by omega) (by omega)) ⟨_, g⟩
  exact ⟨aq a + 1, outer (aq a) 0 (by omega)⟩
/-- the sum over rows -/
def sw (p : Nat → Bool) (v : Nat → Int) : Nat → Int64
  | 0 => 0
  | r + 1 => if p r then sw p v r + Int64.ofInt (v r) else sw p v r
def pw (a : AN) (h : Nat → Nat) (lw k : Nat) (x : Nat) : Nat → Bool := fun r => cts a h r && (x % 2 == 0 || won9 a lw k r)
def vz (a : AN) (h : Nat → Nat) (x : Nat) : Nat → Int := fun r => if 2 ≤ x then wgt a h r else 1
theorem won_m {a : AN} {h : Nat → Nat} {lw k x : Nat} {IM : HI} (hx : x ≤ 3) (D : TwM a h lw k IM) {Q : Int64 → HI → Prop} (hq : Q (sw (pw a h lw k x) (vz a h x) (aq a ^ an a)) IM) : ∀ d r, r + d = aq a ^ an a → M_won_l38 IM (nI x) Q (d + 1) (sw (pw a h lw k x) (vz a h x) r) (nI r) := by
  have r5 := D.1.2.2.2.2.1
  have hm : irm (nI x) 2 = nI (x % 2) := by
    rcases (show x = 0 ∨ x = 1 ∨ x = 2 ∨ x = 3 by omega) with rfl | rfl | rfl | rfl <;> decide
  intro d
  induction d with
  | zero =>
    intro r hr
    have : r = aq a ^ an a := by omega
    subst this
    rw [M_won_l38, D.2.1.2.1]
    exact it (nI_le (by omega) (by omega)) hq
  | succ d ih =>
    intro r hr
    have ih := ih (r + 1) (by omega)
    rw [sw] at ih
    have yes : pw a h lw k x r = true → M_won_b87 IM (nI x) (sw (pw a h lw k x) (vz a h x) r) (nI r) (fun x2' x4' => M_won_l38 IM (nI x) Q (d + 1) x2' x4') Q := by
      intro hp
      rw [if_pos hp] at ih
      unfold M_won_b87
      simp only [nI_1]
      unfold vz at ih ⊢
      by_cases h2 : 2 ≤ x
      · rw [if_pos h2] at ih
        exact it (nI_le (a := 2) h2 (by omega)) (M_weight_k D (by omega) ih)
      · rw [if_neg h2] at ih
        exact ie (nI_ge (b := 2) (by omega) (by omega)) ih
    rw [M_won_l38, D.2.1.2.1, hm]
    simp only [nI_1]
    refine ie (nI_ge (by omega) (by omega)) (D.c (by omega) (fun hc => it rfl ?_) (fun hc => ie (by decide) (ic (fun h1 => ⟨vin (by omega) (by omega), vin (by omega) (by omega), D.w (by omega) (fun hw => it rfl ?_) (fun hw => ie (by decide) (yes ?_))⟩) (fun h1 => yes ?_))))
    · rw [if_neg (by unfold pw; simp [hc])] at ih; exact ih
    · have h1 : x % 2 = 1 := (nI_eq (b := 1) (by omega) (by omega)).mp h1
      rw [if_neg (by unfold pw; simp [hw, h1])] at ih; exact ih
    · unfold pw; simp [hc, hw]
    · have h1 : ¬ x % 2 = 1 := fun q => h1 (by rw [q]; rfl)
      unfold pw; simp [hc, show x % 2 = 0 by omega]
theorem TwC.fr {a : AN} {h : Nat → Nat} {lw k : Nat} {I J : HI} (D : TwC a h lw k I) (f : Fr (fun b _ => b = 21 ∨ b = 25) I J) : TwC a h lw k J := by
  obtain ⟨W, N, b, hH, e4, e5, l3, k8⟩ := D
  exact ⟨W, N.eq (fun j i hj => f _ _ (by omega)), fun r hr => (f _ _ (by omega)).trans (b r hr), fun c hc => ⟨(f _ _ (by omega)).trans (hH c hc).1, (hH c hc).2⟩, (f _ _ (by omega)).trans e4, (f _ _ (by omega)).trans e5, l3, k8⟩
theorem won_c2 {a : AN} {h : Nat → Nat} {lw k x : Nat} {I : HI} (h2 : 2 ≤ x) (hx : x ≤ 3) (D : TwC a h lw k I) {Q : Int64 → HI → Prop} (hq : ∀ J, Fr (fun b _ => b = 21 ∨ b = 25) I J → Q (sw (pw a h lw k x) (vz a h x) (aq a ^ an a)) J) : ∀ d r J, r + d = aq a ^ an a → Fr (fun b _ => b = 21 ∨ b = 25) I J → Led_sumWeights_l6 1 20 (nI (x % 2)) Q (d + 1) J (sw (pw a h lw k x) (vz a h x) r) (nI r) := by
  have r5 := D.1.2.2.2.2.1
  have n8 := D.1.2.1
  have q4 := D.1.2.2.2.1
  intro d
  induction d with
  | zero =>
    intro r J hr f
    have : r = aq a ^ an a := by omega
    subst this
    rw [Led_sumWeights_l6, (D.fr f).2.1.2.2.1]
    exact it (nI_le (by omega) (by omega)) (hq J f)
  | succ d ih =>
    intro r J hr f
    have DJ := D.fr f
    have ih := fun J => ih (r + 1) J (by omega)
    rw [sw] at ih
    have yes : pw a h lw k x r = true → Led_sumWeights_b43 J 1 20 (nI (x % 2)) (sw (pw a h lw k x) (vz a h x) r) (nI r) (fun I' x5' x7' => Led_sumWeights_l6 1 20 (nI (x % 2)) Q (d + 1) I' x5' x7') Q := by
      intro hp
      rw [if_pos hp, show vz a h x r = wgt a h r from if_pos h2] at ih
      unfold Led_sumWeights_b43
      simp only [nI_1]
      refine Sc_dress_k DJ.2.1.1 DJ.2.1.2.1 (by omega) n8 D.1.2.2.1 q4 (by omega) (fun I1 f1 hh => ?_)
      have f1' := f.tr (f1.mono (P' := fun b _ => b = 21 ∨ b = 25) (fun b i hb => by omega))
      have D1 := D.fr f1'
      rw [D1.2.1.1]
      exact Jud_weigh_k D1.2.2.2.1 (by omega) n8 (fun k hk => ⟨hh k hk, by have := hat_lt D.1 r k; unfold hat at this; omega⟩) (fun I2 f2 => ih I2 (f1'.tr (f2.mono (fun b i hb => by omega))))
    rw [Led_sumWeights_l6, DJ.2.1.2.2.1]
    simp only [nI_1]
    refine ie (nI_ge (by omega) (by omega)) (DJ.c (by omega) (fun hc => it rfl ?_) (fun hc => ie (by decide) (ic (fun h1 => yes ?_) (fun h1 => DJ.w (by omega) (fun hw => it rfl ?_) (fun hw => ie (by decide) (yes ?_))))))
    · rw [if_neg (by unfold pw; simp [hc])] at ih; exact ih J f
    · have h1 : x % 2 = 0 := (nI_eq (b := 0) (by omega) (by omega)).mp h1
      unfold pw; simp [hc, h1]
    · have h1 : ¬ x % 2 = 0 := fun q => h1 (by rw [q]; rfl)
      rw [if_neg (by unfold pw; simp [hw]; intro _; omega)] at ih; exact ih J f
    · unfold pw; simp [hc, hw]
theorem won_c1 {a : AN} {h : Nat → Nat} {lw k x : Nat} {I : HI} (D : TwC a h lw k I) {Q : Int32 → Prop} (hq : Q (nI (cnt (pw a h lw k x) (aq a ^ an a)))) : ∀ d r, r + d = aq a ^ an a → Led_countRows_l6 I 1 (nI (x % 2)) Q (d + 1) (nI (cnt (pw a h lw k x) r)) (nI r) := by
  have r5 := D.1.2.2.2.2.1
  intro d
  induction d with
  | zero =>
    intro r hr
    have : r = aq a ^ an a := by omega
    subst this
    rw [Led_countRows_l6, D.2.1.2.2.1]
    exact it (nI_le (by omega) (by omega)) hq
  | succ d ih =>
    intro r hr
    have ih := ih (r + 1) (by omega)
    rw [cnt_succ] at ih
    rw [Led_countRows_l6, D.2.1.2.2.1]
    simp only [nI_1]
    refine ie (nI_ge (by omega) (by omega)) (D.c (by omega) (fun hc => it rfl ?_) (fun hc => ie (by decide) (ic (fun h1 => ?_) (fun h1 => D.w (by omega) (fun hw => it rfl ?_) (fun hw => ie (by decide) ?_)))))
    · rw [if_neg (by unfold pw; simp [hc])] at ih; exact ih
    · have h1 : x % 2 = 0 := (nI_eq (b := 0) (by omega) (by omega)).mp h1
      rw [if_pos (by unfold pw; simp [hc, h1])] at ih; exact ih
    · have h1 : ¬ x % 2 = 0 := fun q => h1 (by rw [q]; rfl)
      rw [if_neg (by unfold pw; simp [hw]; intro _; omega)] at ih; exact ih
    · rw [if_pos (by unfold pw; simp [hc, hw])] at ih; exact ih
theorem sw_cnt {p : Nat → Bool} {v : Nat → Int} (hv : ∀ r, v r = 1) : ∀ n, n < 2 ^ 31 → sw p v n = Int32.toInt64 (nI (cnt p n)) := by
  have key : ∀ n, sw p v n = Int64.ofInt (cnt p n : Int) := by
    intro n
    induction n with
    | zero => rfl
    | succ n ih =>
      rw [sw, cnt_succ, ih, hv]
      by_cases e : p n = true
      · rw [if_pos e, if_pos e, ← Int64.ofInt_add]; rfl
      · rw [if_neg e, if_neg e]
  intro n hn
  have := cnt_le p n
  rw [key, nI_int]
  apply Int64.toInt_inj.mp
  rw [Int32.toInt_toInt64, Int32.toInt_ofInt_of_le (by omega) (by omega), Int64.toInt_ofInt_of_le (by omega) (by omega)]
theorem fin_ok3 {own h : Nat → Nat} {a : AN} {ro : Nat} {I' : HI} {J : HJ} {T F : HR} {L : HL} {IM' : HI} {JM : HJ} (B : InvB own h a ro I' T F L IM') (h0 : IM' 0 0 = 0) {r rb : Int64} (e : r = rb) : M_thrown IM' (fun rt => rt = 0 ∧ ((0 : Int32) = 0 → (I', up2 J ro 0 r, T, F, L).2.1 ro 0 = rb) ∧ Inv ro (I', up2 J ro 0 r, T, F, L) IM' JM) := by
  unfold M_thrown
  exact ⟨h0, fun _ => by rw [e]; exact up2_same J ro 0 _, Inv_mk B⟩
theorem st_won {ro : Nat} {x1 : Int32} {I : HI} {J : HJ} {T F : HR} {L : HL} {IM : HI} {JM : HJ} (hI : Inv ro (I, J, T, F, L) IM JM) : St_won x1 I J T F L ro IM JM (Inv ro) := by
  obtain ⟨own, h, a, B⟩ := Inv_el hI
  have B0 := B
  obtain ⟨W, R, N, C, b5, b6, b7⟩ := B
  have hro := b7.1.2.2.2.1
  have r5 := W.2.2.2.2.1
  unfold St_won L_won H_won H_won_b9
  rcases xcase x1 (n := 3) (by omega) with ⟨x, hx, rfl⟩ | hx
  · refine ie (nI_pos (by omega)) (it (nI_le (b := 3) hx (by omega)) (two_k B0 (fun I' lw k D hM => ?_)))
    have fin : ∀ J', Fr (fun b _ => b = 21 ∨ b = 25) I' J' → ∀ y, y = sw (pw a h lw k x) (vz a h x) (aq a ^ an a) → (ro, 4, 1) ∈ (J', up2 J ro 0 y, T, F, L).2.2.2.2 ∧ M_won IM (nI x) (fun rb IM2 => M_thrown IM2 fun rt => rt = 0 ∧ ((0 : Int32) = 0 → (J', up2 J ro 0 y, T, F, L).2.1 ro 0 = rb) ∧ Inv ro (J', up2 J ro 0 y, T, F, L) IM2 JM) := fun J' f y e => ⟨hro, by
      unfold M_won M_won_b20
      exact ie (nI_pos (by omega)) (ie (nI_nlt (a := 3) hx (by omega)) (M_right_y (up00 _ _) (ie (by decide) (hM (fun IM' DM B' h0 => ⟨aq a ^ an a + 1, won_m hx DM (fin_ok3 (B'.scr (f.mono (fun b i hb => by omega)) Fr.rf B'.2.2.2.2.1) h0 e) _ 0 (by omega)⟩)))))⟩
    have go : H_won_b53 I' T F L (nI x) (nI (x % 2)) (fun r I'' => (ro, 4, 1) ∈ (I'', up2 J ro 0 r, T, F, L).2.2.2.2 ∧ M_won IM (nI x) (fun rb IM2 => M_thrown IM2 fun rt => rt = 0 ∧ ((0 : Int32) = 0 → (I'', up2 J ro 0 r, T, F, L).2.1 ro 0 = rb) ∧ Inv ro (I'', up2 J ro 0 r, T, F, L) IM2 JM)) (fun I'' => (ro, 4, 1) ∈ (I'', J, T, F, L).2.2.2.2 ∧ M_won IM (nI x) (fun rb IM2 => M_thrown IM2 fun rt => rt = 1 ∧ ((1 : Int32) = 0 → (I'', J, T, F, L).2.1 ro 0 = rb) ∧ Inv ro (I'', J, T, F, L) IM2 JM)) := by
      unfold H_won_b53
      by_cases h2 : 2 ≤ x
      · exact it (nI_le (a := 2) h2 (by omega)) ⟨aq a ^ an a + 1, won_c2 h2 hx D (fun J' f => fin J' f _ rfl) _ 0 I' (by omega) Fr.rf⟩
      · refine ie (nI_ge (b := 2) (by omega) (by omega)) ⟨aq a ^ an a + 1, won_c1 D (fin I' Fr.rf _ ?_) _ 0 (by omega)⟩
        exact (sw_cnt (fun r => if_neg h2) _ (by omega)).symm
    rcases (show x = 0 ∨ x = 1 ∨ x = 2 ∨ x = 3 by omega) with rfl | rfl | rfl | rfl
    · exact ie (by decide) (ie (by decide) go)
    · exact it rfl go
    · exact ie (by decide) (ie (by decide) go)
    · exact ie (by decide) (it rfl go)
  · have h9 : (ro, 4, 1) ∈ (I, J, T, F, L).2.2.2.2 ∧ M_won IM x1 (fun rb IM2 => M_thrown IM2 fun rt => rt = 1 ∧ ((1 : Int32) = 0 → (I, J, T, F, L).2.1 ro 0 = rb) ∧ Inv ro (I, J, T, F, L) IM2 JM) := by
      refine ⟨hro, ?_⟩
      unfold M_won M_won_b19 M_won_b20
      rcases hx with h0 | ⟨h0, h1⟩
      · exact it h0 (M_right_n (up00 _ _) (it rfl (fin_no B0 (Fr01 IM) (up00' _))))
      · exact ie h0 (it h1 (M_right_n (up00 _ _) (it rfl (fin_no B0 (Fr01 IM) (up00' _)))))
    rcases hx with h0 | ⟨h0, h1⟩
    · exact it h0 h9
    · exact ie h0 (ie (nle_of_lt h1) h9)
