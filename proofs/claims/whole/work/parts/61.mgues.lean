/-! the reference: the worth of a text, a guess, a row -/
def pst (I : HI) : List Int32 → Prop
  | [] => True
  | x :: s => I 19 s.length = x ∧ pst I s
theorem pst_fr {I I' : HI} : ∀ (s : List Int32), (∀ j, j < s.length → I' 19 j = I 19 j) → pst I s → pst I' s
  | [], _, _ => trivial
  | x :: s, h, hp => ⟨(h _ (by simp)).trans hp.1, pst_fr s (fun j hj => h j (by simp; omega)) hp.2⟩
theorem mcl_pos : ∀ c : AC, 1 ≤ mcl c
  | [] => Nat.le_refl _
  | (o, _) :: r => by unfold mcl; split <;> omega
theorem nm1 {n : Nat} (h : 1 ≤ n) : nI n + (-1) = nI (n - 1) := by
  have e : (-1 : Int32) = - nI 1 := by decide
  rw [e, ← Int32.sub_eq_add_neg, nS h]
theorem M_worth_l {a : AN} {h g : Nat → Nat} {w : Nat} (W : WF a) (hw : w < an a) {Q : Int32 → HI → Prop} {I0 : HI} : ∀ (c : AC) (s : List Int32) (p : Nat) (I : HI), cok (an a) c s.length → mco (I 6) c p → p + mcl c ≤ 8000 → s.length + c.length ≤ 520 → pst I s → MRow I a h g w → Fr (fun b _ => b = 19) I0 I → (∀ I', Fr (fun b _ => b = 19) I0 I' → Q ((evs a h g w c s).headD 0) I') → ∃ nn, M_worth_l11 (nI w) Q nn I (nI s.length) (nI p)
  | [], s, p, I, hc, hm, hl, hs, hp, M, f, hQ => by
    have hc : s.length = 1 := hc
    have hm : I 6 p = 0 := hm
    have hl : p + 1 ≤ 8000 := hl
    refine ⟨1, ?_⟩
    rw [M_worth_l11, nx_nI (by omega), hm]
    refine ⟨vin (by omega) (by omega), it rfl ?_⟩
    match s, hc, hp, hQ with
    | [x], _, hp, hQ =>
      have e : I 19 0 = x := hp.1
      rw [e]; exact hQ I f
  | (o, x) :: r, s, p, I, hc, hm, hl, hs, hp, M, f, hQ => by
    unfold mcl at hl
    unfold mco at hm
    have hs : s.length + (r.length + 1) ≤ 520 := hs
    have l1 := mcl_pos r
    have p8 : p < 8000 := by split at hl <;> omega
    unfold cok at hc
    unfold evs at hQ
    rcases hc with ⟨hc1, hc2⟩ | ⟨rfl, hd, hc2⟩ | ⟨h4, h11, hd, hc2⟩
    · -- a number or a value
      have ho : o ≤ 2 := by omega
      rw [if_pos ho] at hl hm
      have push : ∀ v : Int32, evs a h g w r (v :: s) = evs a h g w r (if o = 1 then nI x :: s else if o = 2 then nI (valo a h g w x) :: s else if o = 3 then (if s.headD 0 = 0 then 1 else 0) :: s.tail else bin o (s.tail.headD 0) (s.headD 0) :: s.tail.tail) → ∃ nn, M_worth_l11 (nI w) Q nn (up2 I 19 s.length v) (nI (s.length + 1)) (nI (p + 2)) := by
        intro v ev
        have f9 : Fr (fun b _ => b = 19) I (up2 I 19 s.length v) := Fr.rf.up rfl
        refine M_worth_l W hw r (v :: s) (p + 2) _ hc2 (mco_eq (fun k => f9 _ _ (by omega)) _ _ hm.2.2) (by omega) (by simp; omega) ⟨up2_same _ _ _ _, pst_fr s (fun j hj => by rw [up2_get, if_neg (by omega)]) hp⟩ (M.fr f9) (f.tr f9) ?_
        rw [ev]; exact hQ
      have b45 : ∀ nn, (∀ v : Int32, (o = 1 → v = nI x) → (o = 2 → v = nI (valo a h g w x)) → M_worth_l11 (nI w) Q nn (up2 I 19 s.length v) (nI (s.length + 1)) (nI (p + 2))) → M_worth_b45 I (nI w) (nI s.length) (nI (p + 1)) (nI o) (fun I' x3' x4' => M_worth_l11 (nI w) Q nn I' x3' x4') Q := by
        intro nn hk
        unfold M_worth_b45
        rw [nx_nI (show p + 1 < 2 ^ 31 by omega), hm.2.1, nx_nI (show s.length < 2 ^ 31 by omega)]
        simp only [nI_1]
        rcases hc1 with ⟨rfl, hx9⟩ | ⟨rfl, hv⟩
        · exact it rfl ⟨vin (by omega) (by omega), vin (by omega) (by omega), hk _ (fun _ => rfl) (fun q => by omega)⟩
        · exact ie (by decide) ⟨vin (by omega) (by omega), M_valueOf_k W M hw hv ⟨vin (by omega) (by omega), hk _ (fun q => by omega) (fun _ => rfl)⟩⟩
      have fin : ∃ nn, M_worth_l11 (nI w) Q nn (up2 I 19 s.length (if o = 1 then nI x else nI (valo a h g w x))) (nI (s.length + 1)) (nI (p + 2)) := by
        refine push _ ?_
        rcases hc1 with ⟨rfl, _⟩ | ⟨rfl, _⟩
        · rfl
        · rfl
      obtain ⟨nn, hn⟩ := fin
      refine ⟨nn + 1, ?_⟩
      rw [M_worth_l11, nx_nI (by omega), hm.1, nI_1]
      have o0 : ¬ nI o = 0 := nI_ne0 (by omega) (by omega)
      refine ⟨vin p8 (by omega), ie o0 ⟨vin p8 (by omega), ?_⟩⟩
      have hb := b45 nn (fun v e1 e2 => by
        have : v = if o = 1 then nI x else nI (valo a h g w x) := by
          rcases hc1 with ⟨rfl, _⟩ | ⟨rfl, _⟩
          · exact e1 rfl
          · exact e2 rfl
        rw [this]; exact hn)
      rcases hc1 with ⟨rfl, _⟩ | ⟨rfl, _⟩
      · exact it rfl hb
      · exact ie (by decide) (it rfl hb)
    · -- not
      rw [if_neg (by omega)] at hl hm
      match s, hd, hp, hc2, hs, hQ with
      | y :: s, hd, hp, hc2, hs, hQ =>
        have hs : s.length + 1 + (r.length + 1) ≤ 520 := hs
        have hQ : ∀ I', Fr (fun b _ => b = 19) I0 I' → Q ((evs a h g w r ((if y = 0 then 1 else 0) :: s)).headD 0) I' := hQ
        have f9 : ∀ v, Fr (fun b _ => b = 19) I (up2 I 19 s.length v) := fun v => Fr.rf.up rfl
        have rec9 : ∀ v, v = (if y = 0 then 1 else 0) → ∃ nn, M_worth_l11 (nI w) Q nn (up2 I 19 s.length v) (nI (s.length + 1)) (nI (p + 1)) := fun v ev =>
          M_worth_l W hw r (v :: s) (p + 1) _ hc2 (mco_eq (fun k => f9 v _ _ (by omega)) _ _ hm.2) (by omega) (by simp; omega) ⟨up2_same _ _ _ _, pst_fr s (fun j hj => by rw [up2_get, if_neg (by omega)]) hp.2⟩ (M.fr (f9 v)) (f.tr (f9 v)) (by rw [ev]; exact hQ)
        obtain ⟨nn, hn⟩ := rec9 _ rfl
        refine ⟨nn + 1, ?_⟩
        show M_worth_l11 (nI w) Q (nn + 1) I (nI (s.length + 1)) (nI p)
        rw [M_worth_l11, nx_nI (by omega), hm.1, nlit1, nS (by omega), ← nlit1, nx_nI (show s.length + 1 - 1 < 2 ^ 31 by omega), show s.length + 1 - 1 = s.length by omega, hp.1, nI_1]
        refine ⟨vin p8 (by omega), ie (by decide) ⟨vin p8 (by omega), ie (by decide) (ie (by decide) (it rfl ⟨vin (by omega) (by omega), ic (fun hy => ?_) (fun hy => ?_)⟩))⟩⟩
        · rw [if_pos hy] at hn; exact ⟨vin (by omega) (by omega), hn⟩
        · rw [if_neg hy] at hn; exact ⟨vin (by omega) (by omega), hn⟩
    · -- two make one
      rw [if_neg (by omega)] at hl hm
      match s, hd, hp, hc2, hs, hQ with
      | y :: z :: s, hd, hp, hc2, hs, hQ =>
        have hs : s.length + 1 + 1 + (r.length + 1) ≤ 520 := hs
        have hc2 : cok (an a) r (s.length + 1) := hc2
        have hQ : ∀ I', Fr (fun b _ => b = 19) I0 I' → Q ((evs a h g w r (bin o z y :: s)).headD 0) I' := by
          have e : (if o = 1 then nI x :: y :: z :: s else if o = 2 then nI (valo a h g w x) :: y :: z :: s else if o = 3 then (if (y :: z :: s).headD 0 = 0 then 1 else 0) :: (y :: z :: s).tail else bin o ((y :: z :: s).tail.headD 0) ((y :: z :: s).headD 0) :: (y :: z :: s).tail.tail) = bin o z y :: s := by
            rw [if_neg (by omega), if_neg (by omega), if_neg (by omega)]; rfl
          rw [e] at hQ; exact hQ
        have f9 : Fr (fun b _ => b = 19) I (up2 I 19 s.length (bin o z y)) := Fr.rf.up rfl
        obtain ⟨nn, hn⟩ := M_worth_l W hw r (bin o z y :: s) (p + 1) _ hc2 (mco_eq (fun k => f9 _ _ (by omega)) _ _ hm.2) (by omega) (by simp; omega) ⟨up2_same _ _ _ _, pst_fr s (fun j hj => by rw [up2_get, if_neg (by omega)]) hp.2.2⟩ (M.fr f9) (f.tr f9) hQ
        refine ⟨nn + 1, ?_⟩
        show M_worth_l11 (nI w) Q (nn + 1) I (nI (s.length + 1 + 1)) (nI p)
        have e1 : I 19 (s.length + 1) = y := hp.1
        have e2 : I 19 s.length = z := hp.2.1
        rw [M_worth_l11, nx_nI (show p < 2 ^ 31 by omega), hm.1, nm1 (by omega), nlit1, nS (show 1 ≤ s.length + 1 + 1 - 1 by omega), ← nlit1, show s.length + 1 + 1 - 1 - 1 = s.length by omega, show s.length + 1 + 1 - 1 = s.length + 1 by omega, nx_nI (show s.length < 2 ^ 31 by omega), nx_nI (show s.length + 1 < 2 ^ 31 by omega), e1, e2, nI_1]
        have on : ∀ k : Nat, k < 4 → ¬ nI o = nI k := fun k hk q => by rw [nI_eq (by omega) (by omega)] at q; omega
        exact ⟨vin p8 (by omega), ie (on 0 (by omega)) ⟨vin p8 (by omega), ie (on 1 (by omega)) (ie (on 2 (by omega)) (ie (on 3 (by omega)) ⟨vin (by omega) (by omega), vin (by omega) (by omega), M_works_k h4 h11 ⟨vin (by omega) (by omega), hn⟩⟩))⟩⟩
theorem M_worth_k {I : HI} {a : AN} {h g : Nat → Nat} {w t : Nat} {c : AC} (W : WF a) (M : MRow I a h g w) (hw : w < an a) (hc : cok (an a) c 0) (hl : c.length ≤ 500) (hm : mco (I 6) c (1000 * w + t)) (hb : t + mcl c ≤ 1000) {Q : Int32 → HI → Prop} (hQ : ∀ I', Fr (fun b _ => b = 19) I I' → Q (ev a h g w c) I') : M_worth I (nI w) (nI t) Q := by
  have n8 := W.2.1
  unfold M_worth
  rw [show (1000 : Int32) = nI 1000 from rfl, nM, nI_add]
  exact M_worth_l W hw c [] (1000 * w + t) I hc hm (by omega) (by simp; omega) trivial M Fr.rf hQ
theorem irm_int {x : Int32} {q : Nat} (h2 : 2 ≤ q) (h4 : q ≤ 4) : (irm x (nI q)).toInt = x.toInt.tmod (q : Int) := by
  have tq : (nI q).toInt = (q : Int) := nI_toInt (by omega)
  have tl := Int32.toInt_lt x
  have tg := Int32.le_toInt x
  have m1 := Int.tmod_lt_of_pos x.toInt (b := (q : Int)) (by omega)
  have m2 := Int.lt_tmod_of_pos x.toInt (b := (q : Int)) (by omega)
  have m3 := Int.mul_tdiv_add_tmod x.toInt (q : Int)
  have m4 : 0 ≤ x.toInt → 0 ≤ x.toInt.tmod (q : Int) := fun h => Int.tmod_nonneg _ h
  have m5 : x.toInt ≤ 0 → x.toInt.tmod (q : Int) ≤ 0 := fun h => by
    have h9 := Int.tmod_nonneg (a := - x.toInt) (q : Int) (by omega)
    rw [Int.neg_tmod] at h9
    omega
  show (x - x / nI q * nI q).toInt = _
  rw [Int32.toInt_sub, Int32.toInt_mul, Int32.toInt_div, tq]
  generalize x.toInt.tdiv (q : Int) = d at m3 ⊢
  generalize x.toInt.tmod (q : Int) = m at m1 m2 m3 m4 m5 ⊢
  rcases (show q = 2 ∨ q = 3 ∨ q = 4 by omega) with rfl | rfl | rfl <;>
  · rw [Int.bmod_eq_of_le (n := d) (by omega) (by omega), Int.bmod_eq_of_le (n := d * _) (by omega) (by omega), Int.bmod_eq_of_le (by omega) (by omega)]
    omega
theorem fmod_lt {x : Int32} {q : Nat} (h2 : 2 ≤ q) : fmod x q < q := by
  unfold fmod
  have := Int.emod_lt_of_pos x.toInt (b := (q : Int)) (by omega)
  have := Int.emod_nonneg x.toInt (b := (q : Int)) (by omega)
  omega
theorem fmod_k {x : Int32} {q : Nat} (h2 : 2 ≤ q) (h4 : q ≤ 4) {P : Int32 → Prop} (h : P (nI (fmod x q))) : if 0 ≤ irm x (nI q) then P (irm x (nI q)) else P (irm x (nI q) + nI q) := by
  have tq : (nI q).toInt = (q : Int) := nI_toInt (by omega)
  have hm := irm_int (x := x) h2 h4
  have m1 := Int.tmod_lt_of_pos x.toInt (b := (q : Int)) (by omega)
  have m2 := Int.lt_tmod_of_pos x.toInt (b := (q : Int)) (by omega)
  have m3 := Int.mul_tdiv_add_tmod x.toInt (q : Int)
  have fl := fmod_lt (x := x) h2
  have ff : ((fmod x q : Nat) : Int) = x.toInt % (q : Int) := by
    unfold fmod
    exact Int.toNat_of_nonneg (Int.emod_nonneg _ (by omega))
  have ft : (nI (fmod x q)).toInt = ((fmod x q : Nat) : Int) := nI_toInt (by omega)
  have z0 : (0 : Int32).toInt = 0 := rfl
  generalize irm x (nI q) = y at hm ⊢
  refine ic (fun hc => ?_) (fun hc => ?_)
  · rw [Int32.le_iff_toInt_le, hm, z0] at hc
    have e : y = nI (fmod x q) := by
      apply Int32.toInt_inj.mp
      rw [hm, ft, ff]
      generalize x.toInt.tdiv (q : Int) = d at m3
      generalize x.toInt.tmod (q : Int) = m at m1 m2 m3 hc ⊢
      rcases (show q = 2 ∨ q = 3 ∨ q = 4 by omega) with rfl | rfl | rfl <;> omega
    rw [e]; exact h
  · rw [Int32.le_iff_toInt_le, hm, z0] at hc
    have e : y + nI q = nI (fmod x q) := by
      apply Int32.toInt_inj.mp
      rw [Int32.toInt_add, hm, tq, ft, ff]
      generalize x.toInt.tdiv (q : Int) = d at m3
      generalize x.toInt.tmod (q : Int) = m at m1 m2 m3 hc ⊢
      rcases (show q = 2 ∨ q = 3 ∨ q = 4 by omega) with rfl | rfl | rfl <;>
      · rw [Int.bmod_eq_of_le (by omega) (by omega)]
        omega
    rw [e]; exact h
/-- digits stay under their places -/
theorem dig_lt {m b n : Nat} {d : Nat → Nat} {s : Nat × Nat} (hs : s.1 < s.2) (hb : 1 ≤ b) (hd : ∀ k, k < n → m.testBit k = true → d k < b) : (dig m b n d s).1 < (dig m b n d s).2 ∧ (dig m b n d s).2 = s.2 * b ^ cnt (fun k => m.testBit k) n := by
  induction n with
  | zero => exact ⟨hs, (Nat.mul_one _).symm⟩
  | succ n ih =>
    obtain ⟨i1, i2⟩ := ih (fun k hk => hd k (by omega))
    rw [dig_succ, cnt_succ]
    by_cases hc : m.testBit n = true
    · rw [if_pos hc, if_pos hc]
      have hdn := hd n (by omega) hc
      refine ⟨?_, by dsimp only; rw [i2, Nat.pow_succ, Nat.mul_assoc]⟩
      dsimp only
      generalize (dig m b n d s).1 = u at i1
      generalize (dig m b n d s).2 = v at i1
      have h9 : d n * v ≤ (b - 1) * v := Nat.mul_le_mul_right _ (by omega)
      have h10 : (b - 1) * v + v = v * b := by rw [← Nat.succ_mul, Nat.mul_comm]; congr 1; omega
      omega
    · rw [if_neg hc, if_neg hc]; exact ⟨i1, i2⟩
theorem view_lt {a : AN} {h g : Nat → Nat} {w : Nat} (W : WF a) (hw : w < an a) (hh : ∀ k, k < an a → h k < aq a) (hg : ∀ k, k < an a → ard a k < ard a w → g k ≤ aq a) : view a h g w < avw a w := by
  have n8 := W.2.1
  have q2 := W.2.2.1
  have l1 := (W.2.2.2.2.2 w hw).1
  obtain ⟨d1, d2⟩ := dig_lt (m := alk a w) (b := aq a) (n := an a) (d := h) (s := (0, 1)) (by decide) (by omega) (fun k hk _ => hh k hk)
  obtain ⟨e1, e2⟩ := dig_lt (m := ahr a w) (b := aq a + 1) (n := an a) (d := g) d1 (by omega) (fun k hk hb => by have := hg k hk ((ahr_bit a w k).mp hb).2; omega)
  have e : (dig (ahr a w) (aq a + 1) (an a) g (dig (alk a w) (aq a) (an a) h (0, 1))).2 = avw a w := by
    rw [e2, d2, Nat.one_mul]
    show _ = vw _ _ _ _ w
    unfold vw
    rw [pop_n l1 n8, pop_n (hr_lt _ _ _) n8]
    rfl
  rw [e] at e1
  exact e1
theorem gues_le {a : AN} {h g : Nat → Nat} {w : Nat} (W : WF a) (hw : w < an a) (hh : ∀ k, k < an a → h k < aq a) (hg : ∀ k, k < an a → ard a k < ard a w → g k ≤ aq a) : gues a h g w ≤ aq a := by
  have q2 := W.2.2.1
  have fl : ∀ x, fmod x (aq a) ≤ aq a := fun x => Nat.le_of_lt (fmod_lt q2)
  unfold gues
  split
  · exact Nat.zero_le _
  · split
    · rename_i h0; exact (W.2.2.2.2.2 w hw).2.2.2.2 h0 _ (view_lt W hw hh hg)
    · split
      · split
        · exact fl _
        · exact Nat.le_refl _
      · exact fl _
theorem gs_le {a : AN} {h : Nat → Nat} (W : WF a) (hh : ∀ k, k < an a → h k < aq a) : ∀ w, w < an a → gs a h w ≤ aq a := by
  have key : ∀ ρ w, w < an a → gl a h ρ w ≤ aq a := by
    intro ρ
    induction ρ with
    | zero => intro w _; exact Nat.zero_le _
    | succ ρ ih =>
      intro w hw
      show (if ard a w = ρ then _ else _) ≤ _
      split
      · exact gues_le W hw hh (fun k hk _ => ih k hk)
      · exact ih w hw
  exact fun w hw => key 8 w hw
theorem M_guesses_k {I : HI} {a : AN} {h g : Nat → Nat} {w : Nat} (W : WF a) (M : MRow I a h g w) (hw : w < an a) (hh : ∀ k, k < an a → h k < aq a) (hg : ∀ k, k < an a → ard a k < ard a w → g k ≤ aq a) {Q : Int32 → HI → Prop} (hQ : ∀ I', Fr (fun b _ => b = 19) I I' → Q (nI (gues a h g w)) I') : M_guesses I (nI w) Q := by
  have n8 := W.2.1
  have q2 := W.2.2.1
  have q4 := W.2.2.2.1
  have k2 := W.kd hw
  have R := M.1
  unfold M_guesses
  rw [nx_nI (by omega), (R.2.2 w hw).1]
  refine ⟨vin (by omega) (by omega), ?_⟩
  unfold gues at hQ
  by_cases c2 : akd a w = 2
  · rw [if_pos c2] at hQ; rw [c2]; exact it rfl (hQ I Fr.rf)
  rw [if_neg c2] at hQ
  refine ie (fun q => c2 (by rw [show (2 : Int32) = nI 2 from rfl, nI_eq (by omega) (by omega)] at q; exact q)) ⟨vin (by omega) (by omega), ?_⟩
  by_cases c0 : akd a w = 0
  · rw [if_pos c0] at hQ
    rw [c0]
    have vl := view_lt W hw hh hg
    have v1 := W.k1 w hw c0
    refine it rfl (M_viewOf_k W M hw ?_)
    rw [nlit1024, nM, nI_add]
    refine ⟨vin (by omega) (by omega), ?_⟩
    rw [nx_nI (by omega), (R.2.2 w hw).2.1 c0 _ vl]
    exact hQ I Fr.rf
  rw [if_neg c0] at hQ
  have c1 : akd a w = 1 := by omega
  refine ie (fun q => c0 (by rw [nlit0, nI_eq (by omega) (by omega)] at q; exact q)) ⟨vin (by omega) (by omega), ?_⟩
  obtain ⟨t, t1, t2, t3, t4⟩ := (R.2.2 w hw).2.2 c1
  obtain ⟨k1, k3, k4⟩ : cdok (an a) (acd a w) := by
    rcases (W.2.2.2.2.2 w hw).2.2.2.1 with g9 | g9
    · exact g9.2
    · rw [c1] at g9; split at g9 <;> omega
  have b67 : ∀ J, Fr (fun b _ => b = 19) I J → (∀ I', Fr (fun b _ => b = 19) I I' → Q (nI (fmod (ev a h g w (acd a w).2) (aq a))) I') → M_guesses_b67 J (nI w) Q := by
    intro J fJ hq
    unfold M_guesses_b67
    rw [nx_nI (by omega), (fJ _ _ (by omega)).trans t1]
    refine ⟨vin (by omega) (by omega), M_worth_k W (M.fr fJ) hw k1 (by omega) (mco_eq (fun k => fJ _ _ (by omega)) _ _ t2) t3 (fun I' f' => ?_)⟩
    rw [show I' 0 2 = nI (aq a) from ((fJ.tr f') _ _ (by omega)).trans R.1.2.1]
    exact ⟨nI_ne0 (by omega) (by omega), fmod_k q2 q4 (P := fun r => Q r I') (hq I' (fJ.tr f'))⟩
  cases hc : (acd a w).1 with
  | none =>
    rw [hc] at t4 hQ
    rw [t4]
    exact it rfl (b67 I Fr.rf hQ)
  | some p =>
    rw [hc] at t4 hQ k3
    dsimp only at hQ t4
    rw [t4.1]
    refine ie (by decide) ⟨vin (by omega) (by omega), M_worth_k (t := 0) W M hw (k4 p hc) (by simp at k3; omega) t4.2.1 (by omega) (fun I' f' => ic (fun hz => ?_) (fun hz => ?_))⟩
    · rw [if_pos hz] at hQ; exact b67 I' f' hQ
    · rw [if_neg hz] at hQ
      rw [show I' 0 2 = nI (aq a) from (f' _ _ (by omega)).trans R.1.2.1]
      exact hQ I' f'
