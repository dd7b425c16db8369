/-! the reference's rows once more, where a wearer may go without a rule though it could have a table (printed from parts 49, 60, 61, 62) -/
def WFw (a : AN) : Prop := 1 ≤ an a ∧ an a ≤ 8 ∧ 2 ≤ aq a ∧ aq a ≤ 4 ∧ aq a ^ an a ≤ 6561 ∧ ∀ w, w < an a → alk a w < 2 ^ an a ∧ (alk a w).testBit w = false ∧ ard a w ≤ 7 ∧ (akd a w = 1 ∧ cdok (an a) (acd a w) ∨ akd a w = 0 ∧ avw a w ≤ 1024 ∨ akd a w = 2) ∧ (akd a w = 0 → ∀ v, v < avw a w → atb a w v ≤ aq a)
theorem WFw.k1 {a : AN} (h : WFw a) : ∀ k, k < an a → akd a k = 0 → avw a k ≤ 1024 := by
  intro k hk h0
  obtain ⟨-, -, -, h1, -⟩ := h.2.2.2.2.2 k hk
  omega
theorem WFw.kd {a : AN} (h : WFw a) {w : Nat} (hw : w < an a) : akd a w ≤ 2 := by
  obtain ⟨-, -, -, h1, -⟩ := h.2.2.2.2.2 w hw
  omega
theorem alk_inw {a : AN} (W : WFw a) {w k : Nat} (hw : w < an a) (h : (alk a w).testBit k = true) : k < an a := by
  have h1 := (W.2.2.2.2.2 w hw).1
  by_cases hk : k < an a
  · exact hk
  · rw [tb_out h1 (by omega)] at h; cases h
theorem valo_congw {a : AN} {h h' g g' : Nat → Nat} {w x : Nat} (W : WFw a) (hw : w < an a) (hh : ∀ k, k < an a → h k = h' k) (hg : ∀ k, k < an a → ard a k < ard a w → g k = g' k) : valo a h g w x = valo a h' g' w x := by
  unfold valo
  have e1 : (if (alk a w).testBit (x / 16) then h (x / 16) else 0) = if (alk a w).testBit (x / 16) then h' (x / 16) else 0 := by
    by_cases hb : (alk a w).testBit (x / 16) = true
    · rw [if_pos hb, if_pos hb, hh _ (alk_inw W hw hb)]
    · rw [if_neg hb, if_neg hb]
  have e2 : (if (ahr a w).testBit (x / 16) then g (x / 16) else 0) = if (ahr a w).testBit (x / 16) then g' (x / 16) else 0 := by
    by_cases hb : (ahr a w).testBit (x / 16) = true
    · obtain ⟨h1, h2⟩ := (ahr_bit a w _).mp hb
      rw [if_pos hb, if_pos hb, hg _ h1 h2]
    · rw [if_neg hb, if_neg hb]
  rw [e1, e2, sumo_cong (fun k hk _ => hh k hk), sumo_cong (m := ahr a w) (d := g) (d' := g') (fun k hk hb => hg k hk ((ahr_bit a w k).mp hb).2)]
theorem evs_congw {a : AN} {h h' g g' : Nat → Nat} {w : Nat} (W : WFw a) (hw : w < an a) (hh : ∀ k, k < an a → h k = h' k) (hg : ∀ k, k < an a → ard a k < ard a w → g k = g' k) : ∀ (c : AC) (s : List Int32), evs a h g w c s = evs a h' g' w c s
  | [], _ => rfl
  | (o, x) :: r, s => by unfold evs; rw [valo_congw W hw hh hg]; exact evs_congw W hw hh hg r _
theorem gues_congw {a : AN} {h h' g g' : Nat → Nat} {w : Nat} (W : WFw a) (hw : w < an a) (hh : ∀ k, k < an a → h k = h' k) (hg : ∀ k, k < an a → ard a k < ard a w → g k = g' k) : gues a h g w = gues a h' g' w := by
  unfold gues ev
  rw [view_cong hh hg]
  have e : ∀ c, evs a h g w c [] = evs a h' g' w c [] := fun c => evs_congw W hw hh hg c []
  rw [e]
  cases hc : (acd a w).1 with
  | none => rfl
  | some p => dsimp only; rw [e p]
theorem gs_fixw {a : AN} {h : Nat → Nat} {w : Nat} (W : WFw a) (hw : w < an a) : gs a h w = gues a h (gs a h) w := by
  have h7 := (W.2.2.2.2.2 w hw).2.2.1
  unfold gs
  rw [gl_up 8 (by omega)]
  show (if ard a w = ard a w then gues a h (gl a h (ard a w)) w else _) = _
  rw [if_pos rfl]
  refine gues_congw W hw (fun _ _ => rfl) (fun k hk hr => ?_)
  have h7k := (W.2.2.2.2.2 k hk).2.2.1
  rw [gl_up (ard a w) hr, ← gl_up 8 (by omega)]
theorem gs_congw {a : AN} {h h' : Nat → Nat} (W : WFw a) (hh : ∀ k, k < an a → h k = h' k) {w : Nat} (hw : w < an a) : gs a h w = gs a h' w := by
  have key : ∀ ρ w, w < an a → gl a h ρ w = gl a h' ρ w := by
    intro ρ
    induction ρ with
    | zero => intro w _; rfl
    | succ ρ ih =>
      intro w hw
      show (if ard a w = ρ then _ else _) = (if ard a w = ρ then _ else _)
      rw [ih w hw, gues_congw (g := gl a h ρ) (g' := gl a h' ρ) W hw hh (fun k hk _ => ih k hk)]
  exact key 8 w hw
theorem M_viewOf_kw {I : HI} {a : AN} {h g : Nat → Nat} {w : Nat} (W : WFw a) (M : MRow I a h g w) (hw : w < an a) {Q : Int32 → Prop} (hq : Q (nI (view a h g w))) : M_viewOf I (nI w) Q := by
  obtain ⟨R, m1, m2⟩ := M
  have n8 := W.2.1
  have h256 := p2le n8
  have hl := (W.2.2.2.2.2 w hw).1
  have hrl := hr_lt (an a) (ard a) w
  have key2 : ∀ s0 : Nat × Nat, Q (nI (dig (ahr a w) (aq a + 1) (an a) g s0).1) → ∀ d i, i + d = an a → M_viewOf_l68 I (nI (ahr a w)) Q (d + 1) (nI (dig (ahr a w) (aq a + 1) i g s0).1) (nI (dig (ahr a w) (aq a + 1) i g s0).2) (nI i) := by
    intro s0 hQ d
    induction d with
    | zero =>
      intro i hi
      have : i = an a := by omega
      subst this
      rw [M_viewOf_l68, R.1.1]
      exact it (nI_le (Nat.le_refl _) (by omega)) hQ
    | succ d ih =>
      intro i hi
      have ih := ih (i + 1) (by omega)
      rw [dig_succ] at ih
      rw [M_viewOf_l68, R.1.1]
      refine ie (nI_ge (by omega) (by omega)) (ic (fun hc => ?_) (fun hc => ?_))
      · rw [nBit0 (by unfold ahr; omega) (by omega)] at hc
        rw [if_neg (by rw [hc]; decide)] at ih
        rw [nI_1]; exact ih
      · rw [nBit0 (by unfold ahr; omega) (by omega)] at hc
        have hc : (ahr a w).testBit i = true := by cases e : (ahr a w).testBit i; exact absurd e hc; rfl
        rw [if_pos hc] at ih
        refine ⟨vin (by omega) (by omega), ?_⟩
        rw [nx_nI (by omega), m2 i (by omega) ((ahr_bit a w i).mp hc).2, R.1.2.1, nI_1, nI_1, nM, nI_add, nM, Nat.mul_comm _ (g i)]
        exact ih
  have key1 : ∀ d i, i + d = an a → M_viewOf_l7 I (nI w) Q (d + 1) (nI (dig (alk a w) (aq a) i h (0, 1)).1) (nI (dig (alk a w) (aq a) i h (0, 1)).2) (nI i) := by
    intro d
    induction d with
    | zero =>
      intro i hi
      have : i = an a := by omega
      subst this
      rw [M_viewOf_l7, R.1.1]
      exact it (nI_le (Nat.le_refl _) (by omega)) (M_hears_k R.1 hw ⟨an a + 1, key2 _ hq (an a) 0 (by omega)⟩)
    | succ d ih =>
      intro i hi
      have ih := ih (i + 1) (by omega)
      rw [dig_succ] at ih
      rw [M_viewOf_l7, R.1.1, nx_nI (by omega), R.1.2.2.1 w hw]
      refine ie (nI_ge (by omega) (by omega)) ⟨vin (by omega) (by omega), ic (fun hc => ?_) (fun hc => ?_)⟩
      · rw [nBit0 (by omega) (by omega)] at hc
        rw [if_neg (by rw [hc]; decide)] at ih
        rw [nI_1]; exact ih
      · rw [nBit0 (by omega) (by omega)] at hc
        have hc : (alk a w).testBit i = true := by cases e : (alk a w).testBit i; exact absurd e hc; rfl
        rw [if_pos hc] at ih
        refine ⟨vin (by omega) (by omega), ?_⟩
        rw [nx_nI (by omega), m1 i (by omega), R.1.2.1, nI_1, nM, nI_add, nM, Nat.mul_comm _ (h i)]
        exact ih
  exact ⟨an a + 1, key1 (an a) 0 (by omega)⟩
theorem M_valueOf_kw {I : HI} {a : AN} {h g : Nat → Nat} {w x : Nat} (W : WFw a) (M : MRow I a h g w) (hw : w < an a) (hx : vok (an a) x) {Q : Int32 → Prop} (hq : Q (nI (valo a h g w x))) : M_valueOf I (nI w) (nI x) Q := by
  obtain ⟨R, m1, m2⟩ := M
  have n8 := W.2.1
  have h256 := p2le n8
  have hl := (W.2.2.2.2.2 w hw).1
  have hrl := hr_lt (an a) (ard a) w
  have hrl2 : ahr a w < 2 ^ an a := hrl
  obtain ⟨v1, v2, v3⟩ := hx
  have hx31 : x < 2 ^ 31 := by omega
  unfold M_valueOf
  rw [show (16 : Int32) = nI 16 from rfl, nRem hx31 (by omega), nDiv hx31 (by omega)]
  have cmp : ∀ k, k < 16 → (nI (x % 16) = (nI k) ↔ x % 16 = k) := fun k hk => nI_eq (by omega) (by omega)
  rw [show (6 : Int32) = nI 6 from rfl, show (7 : Int32) = nI 7 from rfl, show (8 : Int32) = nI 8 from rfl, show (9 : Int32) = nI 9 from rfl, show (10 : Int32) = nI 10 from rfl, show (11 : Int32) = nI 11 from rfl]
  unfold valo at hq
  by_cases c6 : x % 16 = 6
  · rw [if_pos c6] at hq; exact it ((cmp 6 (by omega)).mpr c6) hq
  rw [if_neg c6] at hq; refine ie (fun q => c6 ((cmp 6 (by omega)).mp q)) ?_
  by_cases c7 : x % 16 = 7
  · rw [if_pos c7] at hq; rw [R.1.1]; exact it ((cmp 7 (by omega)).mpr c7) hq
  rw [if_neg c7] at hq; refine ie (fun q => c7 ((cmp 7 (by omega)).mp q)) ?_
  by_cases c8 : x % 16 = 8
  · rw [if_pos c8] at hq; rw [R.1.2.1]; exact it ((cmp 8 (by omega)).mpr c8) hq
  rw [if_neg c8] at hq; refine ie (fun q => c8 ((cmp 8 (by omega)).mp q)) ?_
  by_cases c9 : x % 16 = 9
  · rw [if_pos c9] at hq
    refine it ((cmp 9 (by omega)).mpr c9) ⟨vin (by omega) (by omega), ?_⟩
    rw [nx_nI (by omega), R.1.2.2.1 w hw]
    refine ic (fun hc => ?_) (fun hc => ?_)
    · rw [nBit1 (by omega) (by omega)] at hc
      rw [if_pos hc] at hq
      refine ⟨vin (by omega) (by omega), ?_⟩
      rw [nx_nI (by omega), m1 _ v3]; exact hq
    · rw [nBit1 (by omega) (by omega)] at hc
      rw [if_neg hc] at hq; exact hq
  rw [if_neg c9] at hq; refine ie (fun q => c9 ((cmp 9 (by omega)).mp q)) ?_
  by_cases c10 : x % 16 = 10
  · rw [if_pos c10] at hq
    refine it ((cmp 10 (by omega)).mpr c10) (M_hears_k R.1 hw (ic (fun hc => ?_) (fun hc => ?_)))
    · rw [nBit1 (by omega) (by omega)] at hc
      have hc : (ahr a w).testBit (x / 16) = true := hc
      rw [if_pos hc] at hq
      refine ⟨vin (by omega) (by omega), ?_⟩
      rw [nx_nI (by omega), m2 _ v3 ((ahr_bit a w _).mp hc).2]; exact hq
    · rw [nBit1 (by omega) (by omega)] at hc
      have hc : ¬ (ahr a w).testBit (x / 16) = true := hc
      rw [if_neg hc] at hq; exact hq
  rw [if_neg c10] at hq; refine ie (fun q => c10 ((cmp 10 (by omega)).mp q)) ?_
  by_cases c11 : x % 16 = 11
  · rw [if_pos c11] at hq
    refine it ((cmp 11 (by omega)).mpr c11) ⟨vin (by omega) (by omega), ?_⟩
    rw [nx_nI (by omega), R.1.2.2.1 w hw]
    exact M_sum_k R.1.1 n8 (by omega) (fun k hk _ => m1 k hk) hq
  rw [if_neg c11] at hq; refine ie (fun q => c11 ((cmp 11 (by omega)).mp q)) ?_
  exact M_hears_k R.1 hw (M_sum_k R.1.1 n8 (by omega) (fun k hk hb => m2 k hk ((ahr_bit a w k).mp hb).2) hq)
theorem M_worth_lw {a : AN} {h g : Nat → Nat} {w : Nat} (W : WFw a) (hw : w < an a) {Q : Int32 → HI → Prop} {I0 : HI} : ∀ (c : AC) (s : List Int32) (p : Nat) (I : HI), cok (an a) c s.length → mco (I 6) c p → p + mcl c ≤ 8000 → s.length + c.length ≤ 520 → pst I s → MRow I a h g w → Fr (fun b _ => b = 19) I0 I → (∀ I', Fr (fun b _ => b = 19) I0 I' → Q ((evs a h g w c s).headD 0) I') → ∃ nn, M_worth_l11 (nI w) Q nn I (nI s.length) (nI p)
  | [], s, p, I, hc, hm, hl, hs, hp, M, f, hQ => by
    have hc : s.length = 1 := hc
    have hm : I 6 p = 0 := hm
    have hl : p + 1 ≤ 8000 := hl
    refine ⟨1, ?_⟩
    rw [M_worth_l11, nx_nI (by omega), hm]
    refine ⟨vin (by omega) (by omega), it rfl ?_⟩
    match s, hc, hp, hQ with
    | [x], _, hp, hQ =>
      have e : I 19 0 = x := hp.1
      rw [e]; exact hQ I f
  | (o, x) :: r, s, p, I, hc, hm, hl, hs, hp, M, f, hQ => by
    unfold mcl at hl
    unfold mco at hm
    have hs : s.length + (r.length + 1) ≤ 520 := hs
    have l1 := mcl_pos r
    have p8 : p < 8000 := by split at hl <;> omega
    unfold cok at hc
    unfold evs at hQ
    rcases hc with ⟨hc1, hc2⟩ | ⟨rfl, hd, hc2⟩ | ⟨h4, h11, hd, hc2⟩
    · -- a number or a value
      have ho : o ≤ 2 := by omega
      rw [if_pos ho] at hl hm
      have push : ∀ v : Int32, evs a h g w r (v :: s) = evs a h g w r (if o = 1 then nI x :: s else if o = 2 then nI (valo a h g w x) :: s else if o = 3 then (if s.headD 0 = 0 then 1 else 0) :: s.tail else bin o (s.tail.headD 0) (s.headD 0) :: s.tail.tail) → ∃ nn, M_worth_l11 (nI w) Q nn (up2 I 19 s.length v) (nI (s.length + 1)) (nI (p + 2)) := by
        intro v ev
        have f9 : Fr (fun b _ => b = 19) I (up2 I 19 s.length v) := Fr.rf.up rfl
        refine M_worth_lw W hw r (v :: s) (p + 2) _ hc2 (mco_eq (fun k => f9 _ _ (by omega)) _ _ hm.2.2) (by omega) (by simp; omega) ⟨up2_same _ _ _ _, pst_fr s (fun j hj => by rw [up2_get, if_neg (by omega)]) hp⟩ (M.fr f9) (f.tr f9) ?_
        rw [ev]; exact hQ
      have b45 : ∀ nn, (∀ v : Int32, (o = 1 → v = nI x) → (o = 2 → v = nI (valo a h g w x)) → M_worth_l11 (nI w) Q nn (up2 I 19 s.length v) (nI (s.length + 1)) (nI (p + 2))) → M_worth_b45 I (nI w) (nI s.length) (nI (p + 1)) (nI o) (fun I' x3' x4' => M_worth_l11 (nI w) Q nn I' x3' x4') Q := by
        intro nn hk
        unfold M_worth_b45
        rw [nx_nI (show p + 1 < 2 ^ 31 by omega), hm.2.1, nx_nI (show s.length < 2 ^ 31 by omega)]
        simp only [nI_1]
        rcases hc1 with ⟨rfl, hx9⟩ | ⟨rfl, hv⟩
        · exact it rfl ⟨vin (by omega) (by omega), vin (by omega) (by omega), hk _ (fun _ => rfl) (fun q => by omega)⟩
        · exact ie (by decide) ⟨vin (by omega) (by omega), M_valueOf_kw W M hw hv ⟨vin (by omega) (by omega), hk _ (fun q => by omega) (fun _ => rfl)⟩⟩
      have fin : ∃ nn, M_worth_l11 (nI w) Q nn (up2 I 19 s.length (if o = 1 then nI x else nI (valo a h g w x))) (nI (s.length + 1)) (nI (p + 2)) := by
        refine push _ ?_
        rcases hc1 with ⟨rfl, _⟩ | ⟨rfl, _⟩
        · rfl
        · rfl
      obtain ⟨nn, hn⟩ := fin
      refine ⟨nn + 1, ?_⟩
      rw [M_worth_l11, nx_nI (by omega), hm.1, nI_1]
      have o0 : ¬ nI o = 0 := nI_ne0 (by omega) (by omega)
      refine ⟨vin p8 (by omega), ie o0 ⟨vin p8 (by omega), ?_⟩⟩
      have hb := b45 nn (fun v e1 e2 => by
        have : v = if o = 1 then nI x else nI (valo a h g w x) := by
          rcases hc1 with ⟨rfl, _⟩ | ⟨rfl, _⟩
          · exact e1 rfl
          · exact e2 rfl
        rw [this]; exact hn)
      rcases hc1 with ⟨rfl, _⟩ | ⟨rfl, _⟩
      · exact it rfl hb
      · exact ie (by decide) (it rfl hb)
    · -- not
      rw [if_neg (by omega)] at hl hm
      match s, hd, hp, hc2, hs, hQ with
      | y :: s, hd, hp, hc2, hs, hQ =>
        have hs : s.length + 1 + (r.length + 1) ≤ 520 := hs
        have hQ : ∀ I', Fr (fun b _ => b = 19) I0 I' → Q ((evs a h g w r ((if y = 0 then 1 else 0) :: s)).headD 0) I' := hQ
        have f9 : ∀ v, Fr (fun b _ => b = 19) I (up2 I 19 s.length v) := fun v => Fr.rf.up rfl
        have rec9 : ∀ v, v = (if y = 0 then 1 else 0) → ∃ nn, M_worth_l11 (nI w) Q nn (up2 I 19 s.length v) (nI (s.length + 1)) (nI (p + 1)) := fun v ev =>
          M_worth_lw W hw r (v :: s) (p + 1) _ hc2 (mco_eq (fun k => f9 v _ _ (by omega)) _ _ hm.2) (by omega) (by simp; omega) ⟨up2_same _ _ _ _, pst_fr s (fun j hj => by rw [up2_get, if_neg (by omega)]) hp.2⟩ (M.fr (f9 v)) (f.tr (f9 v)) (by rw [ev]; exact hQ)
        obtain ⟨nn, hn⟩ := rec9 _ rfl
        refine ⟨nn + 1, ?_⟩
        show M_worth_l11 (nI w) Q (nn + 1) I (nI (s.length + 1)) (nI p)
        rw [M_worth_l11, nx_nI (by omega), hm.1, nlit1, nS (by omega), ← nlit1, nx_nI (show s.length + 1 - 1 < 2 ^ 31 by omega), show s.length + 1 - 1 = s.length by omega, hp.1, nI_1]
        refine ⟨vin p8 (by omega), ie (by decide) ⟨vin p8 (by omega), ie (by decide) (ie (by decide) (it rfl ⟨vin (by omega) (by omega), ic (fun hy => ?_) (fun hy => ?_)⟩))⟩⟩
        · rw [if_pos hy] at hn; exact ⟨vin (by omega) (by omega), hn⟩
        · rw [if_neg hy] at hn; exact ⟨vin (by omega) (by omega), hn⟩
    · -- two make one
      rw [if_neg (by omega)] at hl hm
      match s, hd, hp, hc2, hs, hQ with
      | y :: z :: s, hd, hp, hc2, hs, hQ =>
        have hs : s.length + 1 + 1 + (r.length + 1) ≤ 520 := hs
        have hc2 : cok (an a) r (s.length + 1) := hc2
        have hQ : ∀ I', Fr (fun b _ => b = 19) I0 I' → Q ((evs a h g w r (bin o z y :: s)).headD 0) I' := by
          have e : (if o = 1 then nI x :: y :: z :: s else if o = 2 then nI (valo a h g w x) :: y :: z :: s else if o = 3 then (if (y :: z :: s).headD 0 = 0 then 1 else 0) :: (y :: z :: s).tail else bin o ((y :: z :: s).tail.headD 0) ((y :: z :: s).headD 0) :: (y :: z :: s).tail.tail) = bin o z y :: s := by
            rw [if_neg (by omega), if_neg (by omega), if_neg (by omega)]; rfl
          rw [e] at hQ; exact hQ
        have f9 : Fr (fun b _ => b = 19) I (up2 I 19 s.length (bin o z y)) := Fr.rf.up rfl
        obtain ⟨nn, hn⟩ := M_worth_lw W hw r (bin o z y :: s) (p + 1) _ hc2 (mco_eq (fun k => f9 _ _ (by omega)) _ _ hm.2) (by omega) (by simp; omega) ⟨up2_same _ _ _ _, pst_fr s (fun j hj => by rw [up2_get, if_neg (by omega)]) hp.2.2⟩ (M.fr f9) (f.tr f9) hQ
        refine ⟨nn + 1, ?_⟩
        show M_worth_l11 (nI w) Q (nn + 1) I (nI (s.length + 1 + 1)) (nI p)
        have e1 : I 19 (s.length + 1) = y := hp.1
        have e2 : I 19 s.length = z := hp.2.1
        rw [M_worth_l11, nx_nI (show p < 2 ^ 31 by omega), hm.1, nm1 (by omega), nlit1, nS (show 1 ≤ s.length + 1 + 1 - 1 by omega), ← nlit1, show s.length + 1 + 1 - 1 - 1 = s.length by omega, show s.length + 1 + 1 - 1 = s.length + 1 by omega, nx_nI (show s.length < 2 ^ 31 by omega), nx_nI (show s.length + 1 < 2 ^ 31 by omega), e1, e2, nI_1]
        have on : ∀ k : Nat, k < 4 → ¬ nI o = nI k := fun k hk q => by rw [nI_eq (by omega) (by omega)] at q; omega
        exact ⟨vin p8 (by omega), ie (on 0 (by omega)) ⟨vin p8 (by omega), ie (on 1 (by omega)) (ie (on 2 (by omega)) (ie (on 3 (by omega)) ⟨vin (by omega) (by omega), vin (by omega) (by omega), M_works_k h4 h11 ⟨vin (by omega) (by omega), hn⟩⟩))⟩⟩
theorem M_worth_kw {I : HI} {a : AN} {h g : Nat → Nat} {w t : Nat} {c : AC} (W : WFw a) (M : MRow I a h g w) (hw : w < an a) (hc : cok (an a) c 0) (hl : c.length ≤ 500) (hm : mco (I 6) c (1000 * w + t)) (hb : t + mcl c ≤ 1000) {Q : Int32 → HI → Prop} (hQ : ∀ I', Fr (fun b _ => b = 19) I I' → Q (ev a h g w c) I') : M_worth I (nI w) (nI t) Q := by
  have n8 := W.2.1
  unfold M_worth
  rw [show (1000 : Int32) = nI 1000 from rfl, nM, nI_add]
  exact M_worth_lw W hw c [] (1000 * w + t) I hc hm (by omega) (by simp; omega) trivial M Fr.rf hQ
theorem view_ltw {a : AN} {h g : Nat → Nat} {w : Nat} (W : WFw a) (hw : w < an a) (hh : ∀ k, k < an a → h k < aq a) (hg : ∀ k, k < an a → ard a k < ard a w → g k ≤ aq a) : view a h g w < avw a w := by
  have n8 := W.2.1
  have q2 := W.2.2.1
  have l1 := (W.2.2.2.2.2 w hw).1
  obtain ⟨d1, d2⟩ := dig_lt (m := alk a w) (b := aq a) (n := an a) (d := h) (s := (0, 1)) (by decide) (by omega) (fun k hk _ => hh k hk)
  obtain ⟨e1, e2⟩ := dig_lt (m := ahr a w) (b := aq a + 1) (n := an a) (d := g) d1 (by omega) (fun k hk hb => by have := hg k hk ((ahr_bit a w k).mp hb).2; omega)
  have e : (dig (ahr a w) (aq a + 1) (an a) g (dig (alk a w) (aq a) (an a) h (0, 1))).2 = avw a w := by
    rw [e2, d2, Nat.one_mul]
    show _ = vw _ _ _ _ w
    unfold vw
    rw [pop_n l1 n8, pop_n (hr_lt _ _ _) n8]
    rfl
  rw [e] at e1
  exact e1
theorem gues_lew {a : AN} {h g : Nat → Nat} {w : Nat} (W : WFw a) (hw : w < an a) (hh : ∀ k, k < an a → h k < aq a) (hg : ∀ k, k < an a → ard a k < ard a w → g k ≤ aq a) : gues a h g w ≤ aq a := by
  have q2 := W.2.2.1
  have fl : ∀ x, fmod x (aq a) ≤ aq a := fun x => Nat.le_of_lt (fmod_lt q2)
  unfold gues
  split
  · exact Nat.zero_le _
  · split
    · rename_i h0; exact (W.2.2.2.2.2 w hw).2.2.2.2 h0 _ (view_ltw W hw hh hg)
    · split
      · split
        · exact fl _
        · exact Nat.le_refl _
      · exact fl _
theorem gs_lew {a : AN} {h : Nat → Nat} (W : WFw a) (hh : ∀ k, k < an a → h k < aq a) : ∀ w, w < an a → gs a h w ≤ aq a := by
  have key : ∀ ρ w, w < an a → gl a h ρ w ≤ aq a := by
    intro ρ
    induction ρ with
    | zero => intro w _; exact Nat.zero_le _
    | succ ρ ih =>
      intro w hw
      show (if ard a w = ρ then _ else _) ≤ _
      split
      · exact gues_lew W hw hh (fun k hk _ => ih k hk)
      · exact ih w hw
  exact fun w hw => key 8 w hw
theorem M_guesses_kw {I : HI} {a : AN} {h g : Nat → Nat} {w : Nat} (W : WFw a) (M : MRow I a h g w) (hw : w < an a) (hh : ∀ k, k < an a → h k < aq a) (hg : ∀ k, k < an a → ard a k < ard a w → g k ≤ aq a) {Q : Int32 → HI → Prop} (hQ : ∀ I', Fr (fun b _ => b = 19) I I' → Q (nI (gues a h g w)) I') : M_guesses I (nI w) Q := by
  have n8 := W.2.1
  have q2 := W.2.2.1
  have q4 := W.2.2.2.1
  have k2 := W.kd hw
  have R := M.1
  unfold M_guesses
  rw [nx_nI (by omega), (R.2.2 w hw).1]
  refine ⟨vin (by omega) (by omega), ?_⟩
  unfold gues at hQ
  by_cases c2 : akd a w = 2
  · rw [if_pos c2] at hQ; rw [c2]; exact it rfl (hQ I Fr.rf)
  rw [if_neg c2] at hQ
  refine ie (fun q => c2 (by rw [show (2 : Int32) = nI 2 from rfl, nI_eq (by omega) (by omega)] at q; exact q)) ⟨vin (by omega) (by omega), ?_⟩
  by_cases c0 : akd a w = 0
  · rw [if_pos c0] at hQ
    rw [c0]
    have vl := view_ltw W hw hh hg
    have v1 := W.k1 w hw c0
    refine it rfl (M_viewOf_kw W M hw ?_)
    rw [nlit1024, nM, nI_add]
    refine ⟨vin (by omega) (by omega), ?_⟩
    rw [nx_nI (by omega), (R.2.2 w hw).2.1 c0 _ vl]
    exact hQ I Fr.rf
  rw [if_neg c0] at hQ
  have c1 : akd a w = 1 := by omega
  refine ie (fun q => c0 (by rw [nlit0, nI_eq (by omega) (by omega)] at q; exact q)) ⟨vin (by omega) (by omega), ?_⟩
  obtain ⟨t, t1, t2, t3, t4⟩ := (R.2.2 w hw).2.2 c1
  obtain ⟨k1, k3, k4⟩ : cdok (an a) (acd a w) := by
    rcases (W.2.2.2.2.2 w hw).2.2.2.1 with g9 | g9
    · exact g9.2
    · omega
  have b67 : ∀ J, Fr (fun b _ => b = 19) I J → (∀ I', Fr (fun b _ => b = 19) I I' → Q (nI (fmod (ev a h g w (acd a w).2) (aq a))) I') → M_guesses_b67 J (nI w) Q := by
    intro J fJ hq
    unfold M_guesses_b67
    rw [nx_nI (by omega), (fJ _ _ (by omega)).trans t1]
    refine ⟨vin (by omega) (by omega), M_worth_kw W (M.fr fJ) hw k1 (by omega) (mco_eq (fun k => fJ _ _ (by omega)) _ _ t2) t3 (fun I' f' => ?_)⟩
    rw [show I' 0 2 = nI (aq a) from ((fJ.tr f') _ _ (by omega)).trans R.1.2.1]
    exact ⟨nI_ne0 (by omega) (by omega), fmod_k q2 q4 (P := fun r => Q r I') (hq I' (fJ.tr f'))⟩
  cases hc : (acd a w).1 with
  | none =>
    rw [hc] at t4 hQ
    rw [t4]
    exact it rfl (b67 I Fr.rf hQ)
  | some p =>
    rw [hc] at t4 hQ k3
    dsimp only at hQ t4
    rw [t4.1]
    refine ie (by decide) ⟨vin (by omega) (by omega), M_worth_kw (t := 0) W M hw (k4 p hc) (by simp at k3; omega) t4.2.1 (by omega) (fun I' f' => ic (fun hz => ?_) (fun hz => ?_))⟩
    · rw [if_pos hz] at hQ; exact b67 I' f' hQ
    · rw [if_neg hz] at hQ
      rw [show I' 0 2 = nI (aq a) from (f' _ _ (by omega)).trans R.1.2.1]
      exact hQ I' f'
theorem hat_ltw {a : AN} (W : WFw a) (r w : Nat) : hat a r w < aq a := Nat.mod_lt _ (by have := W.2.2.1; omega)
theorem M_worksRow_kw {I : HI} {a : AN} {r : Nat} (W : WFw a) (R : RepM I a) (hr : r < 2 ^ 31) {Q : HI → Prop} (h : ∀ I', Fr rwP I I' → (∀ w, w < an a → I' 17 w = nI (hat a r w)) → (∀ w, w < an a → I' 18 w = nI (gs a (hat a r) w)) → Q I') : M_worksRow I (nI r) Q := by
  have n8 := W.2.1
  unfold M_worksRow
  refine M_wears_k R.1.1 R.1.2.1 n8 W.2.2.1 W.2.2.2.1 hr (fun I1 f1 h17 => ?_)
  have h17 : ∀ w, w < an a → I1 17 w = nI (hat a r w) := h17
  have hh : ∀ k, k < an a → hat a r k < aq a := fun k _ => hat_ltw W r k
  have hg := gs_lew W hh
  have h7 : ∀ w, w < an a → ard a w ≤ 7 := fun w hw => (W.2.2.2.2.2 w hw).2.2.1
  have inner : ∀ (K : HI → Int32 → Prop) ρ, ρ ≤ 7 → (∀ J, Fr (fun b _ => b = 18 ∨ b = 19) I1 J → (∀ k, k < an a → ard a k < ρ + 1 → J 18 k = nI (gs a (hat a r) k)) → K J (nI (ρ + 1))) → ∀ d j J, j + d = an a → Fr (fun b _ => b = 18 ∨ b = 19) I1 J → (∀ k, k < an a → (ard a k < ρ ∨ ard a k = ρ ∧ k < j) → J 18 k = nI (gs a (hat a r) k)) → M_worksRow_l15 (nI ρ) K Q (d + 1) J (nI j) := by
    intro K ρ hρ hK d
    induction d with
    | zero =>
      intro j J hj f hs
      have RJ := R.eq (I' := J) (fun b i hb => (f _ _ (by omega)).trans (f1 _ _ (by omega)))
      rw [M_worksRow_l15, RJ.1.1, nI_1]
      exact it (nI_le (by omega) (by omega)) (hK J f (fun k hk hr => hs k hk (by omega)))
    | succ d ih =>
      intro j J hj f hs
      have hj' : j < an a := by omega
      have RJ := R.eq (I' := J) (fun b i hb => (f _ _ (by omega)).trans (f1 _ _ (by omega)))
      have := h7 j hj'
      rw [M_worksRow_l15, RJ.1.1, nx_nI (by omega), RJ.1.2.2.2.1 j hj']
      simp only [nI_1]
      refine ie (nI_ge (by omega) (by omega)) ⟨vin (by omega) (by omega), ic (fun hc => ?_) (fun hc => ?_)⟩
      · rw [nI_eq (by omega) (by omega)] at hc
        have M : MRow J a (hat a r) (gs a (hat a r)) j := ⟨RJ, fun k hk => (f _ _ (by omega)).trans (h17 k hk), fun k hk hr => hs k hk (by omega)⟩
        refine M_guesses_kw W M hj' hh (fun k hk _ => hg k hk) (fun J2 f2 => ⟨vin (by omega) (by omega), ?_⟩)
        rw [← gs_fixw W hj']
        refine ih (j + 1) _ (by omega) ((f.tr (f2.mono (fun b i hb => Or.inr hb))).up (Or.inl rfl)) (fun k hk hkr => ?_)
        rw [up2_get]
        by_cases e : k = j
        · rw [if_pos ⟨rfl, e⟩, e]
        · rw [if_neg (by omega), f2 _ _ (by omega)]; exact hs k hk (by omega)
      · rw [nI_eq (by omega) (by omega)] at hc
        exact ih (j + 1) J (by omega) f (fun k hk hkr => hs k hk (by
          by_cases e : k = j
          · subst e; omega
          · omega))
  have outer : ∀ d ρ J, ρ + d = 8 → Fr (fun b _ => b = 18 ∨ b = 19) I1 J → (∀ k, k < an a → ard a k < ρ → J 18 k = nI (gs a (hat a r) k)) → M_worksRow_l7 Q (d + 1) J (nI ρ) := by
    intro d
    induction d with
    | zero =>
      intro ρ J hρ f hs
      have : ρ = 8 := by omega
      subst this
      rw [M_worksRow_l7]
      refine it (by decide) (h J ((f1.mono (fun b i hb => Or.inl hb)).tr (f.mono (fun b i hb => Or.inr hb))) (fun w hw => (f _ _ (by omega)).trans (h17 w hw)) (fun w hw => hs w hw (by have := h7 w hw; omega)))
    | succ d ih =>
      intro ρ J hρ f hs
      rw [M_worksRow_l7, nlit8]
      refine ie (nI_ge (by omega) (by omega)) ⟨an a + 1, inner _ ρ (by omega) (fun J' f' hs' => ih (ρ + 1) J' (by omega) f' hs') (an a) 0 J (by omega) f (fun k hk hkr => hs k hk (by omega))⟩
  exact ⟨9, outer 8 0 I1 (by omega) Fr.rf (fun k hk hr => by omega)⟩
theorem M_worksAll_kw {I : HI} {a : AN} (W : WFw a) (R : RepM I a) (hW : WorI a I) {Q : HI → Prop} (h : ∀ I', Fr waP I I' → RepM I' a → I' 0 40 = 1 → (∀ r, r < aq a ^ an a → done I' a r) → Q I') : M_worksAll I Q := by
  have n8 := W.2.1
  have q2 := W.2.2.1
  have q4 := W.2.2.2.1
  have r5 := W.2.2.2.2.1
  unfold M_worksAll
  rcases hW with h0 | ⟨h1, h2⟩
  · rw [h0]
    refine it rfl ?_
    have inner : ∀ (K : HI → Int32 → Prop) r, r < aq a ^ an a → (∀ J, Fr waP I J → J 0 40 = 1 → (∀ r', r' < r + 1 → done J a r') → K J (nI (r + 1))) → ∀ d j J, j + d = an a → Fr waP I J → J 0 40 = 1 → (∀ r', r' < r → done J a r') → (∀ w, w < an a → J 17 w = nI (hat a r w)) → (∀ w, w < an a → J 18 w = nI (gs a (hat a r) w)) → J 20 r = nI (msk (fun w => decide (gs a (hat a r) w = hat a r w)) j) → J 21 r = nI (msk (fun w => decide (gs a (hat a r) w ≠ hat a r w ∧ gs a (hat a r) w ≠ aq a)) j) → (∀ w, w < j → J 22 (8 * r + w) = nI (gs a (hat a r) w)) → M_worksAll_l44 (nI r) K Q (d + 1) J (nI j) := by
      intro K r hr hK d
      induction d with
      | zero =>
        intro j J hj f e40 hd h17 h18 e20 e21 e22
        have : j = an a := by omega
        subst this
        have RJ := R.eq (I' := J) (fun b i hb => f _ _ (by unfold waP; omega))
        rw [M_worksAll_l44, RJ.1.1, nI_1]
        refine it (nI_le (Nat.le_refl _) (by omega)) (hK J f e40 (fun r' hr' => ?_))
        by_cases e : r' = r
        · subst e; exact ⟨e20, e21, e22⟩
        · exact hd r' (by omega)
      | succ d ih =>
        intro j J hj f e40 hd h17 h18 e20 e21 e22
        have hj' : j < an a := by omega
        have RJ := R.eq (I' := J) (fun b i hb => f _ _ (by unfold waP; omega))
        have hl := hat_ltw W r j
        have gl9 := gs_lew W (fun k _ => hat_ltw W r k) j hj'
        rw [M_worksAll_l44, RJ.1.1, nlit8, nM, nI_add, nx_nI (show j < 2 ^ 31 by omega), nx_nI (show r < 2 ^ 31 by omega), nx_nI (show 8 * r + j < 2 ^ 31 by omega), h18 j hj']
        simp only [nI_1]
        generalize hJ1 : up2 J 22 (8 * r + j) (nI (gs a (hat a r) j)) = J1
        have f1 : Fr (fun b i => b = 22 ∧ i = 8 * r + j) J J1 := by rw [← hJ1]; exact Fr.rf.up ⟨rfl, rfl⟩
        have e22' : ∀ w, w < j + 1 → J1 22 (8 * r + w) = nI (gs a (hat a r) w) := fun w hw => by
          rw [← hJ1, up2_get]
          by_cases e : w = j
          · subst e; rw [if_pos ⟨rfl, rfl⟩]
          · rw [if_neg (by omega)]; exact e22 w (by omega)
        rw [show J1 18 j = nI (gs a (hat a r) j) from (f1 _ _ (by omega)).trans (h18 j hj'), show J1 17 j = nI (hat a r j) from (f1 _ _ (by omega)).trans (h17 j hj'), show J1 0 2 = nI (aq a) from (f1 _ _ (by omega)).trans RJ.1.2.1, show J1 20 r = _ from (f1 _ _ (by omega)).trans e20, show J1 21 r = _ from (f1 _ _ (by omega)).trans e21, nShl1 j (by omega), nOr, nOr]
        have go : ∀ J2, Fr (fun b i => b = 22 ∧ i = 8 * r + j ∨ (b = 20 ∨ b = 21) ∧ i = r) J J2 → J2 20 r = nI (msk (fun w => decide (gs a (hat a r) w = hat a r w)) (j + 1)) → J2 21 r = nI (msk (fun w => decide (gs a (hat a r) w ≠ hat a r w ∧ gs a (hat a r) w ≠ aq a)) (j + 1)) → (∀ w, w < j + 1 → J2 22 (8 * r + w) = nI (gs a (hat a r) w)) → M_worksAll_l44 (nI r) K Q (d + 1) J2 (nI (j + 1)) := by
          intro J2 f2 g20 g21 g22
          refine ih (j + 1) J2 (by omega) (f.tr (f2.mono (fun b i hb => by unfold waP; omega))) ((f2 _ _ (by omega)).trans e40) (fun r' hr' => ?_) (fun w hw => (f2 _ _ (by omega)).trans (h17 w hw)) (fun w hw => (f2 _ _ (by omega)).trans (h18 w hw)) g20 g21 g22
          obtain ⟨d1, d2, d3⟩ := hd r' hr'
          exact ⟨(f2 _ _ (by omega)).trans d1, (f2 _ _ (by omega)).trans d2, fun w hw => (f2 _ _ (by omega)).trans (d3 w hw)⟩
        refine ie (nI_ge (by omega) (by omega)) ⟨vin (by omega) (by omega), vin (by omega) (by omega), vin (by omega) (by omega), vin (by omega) (by omega), ic (fun hc => ?_) (fun hc => ⟨vin (by omega) (by omega), ic (fun hc2 => ?_) (fun hc2 => ?_)⟩)⟩
        · rw [nI_eq (by omega) (by omega)] at hc
          refine ⟨vin (by omega) (by omega), vin (by omega) (by omega), go _ ((f1.mono (fun b i hb => Or.inl hb)).up (by omega)) ?_ ?_ (fun w hw => ?_)⟩
          · rw [up2_same, rts_succ a, if_pos hc]
          · rw [up2_get, if_neg (by omega), f1 _ _ (by omega), e21, wrs_succ, if_neg (by omega)]
          · rw [up2_get, if_neg (by omega)]; exact e22' w hw
        · rw [nI_eq (by omega) (by omega)] at hc hc2
          refine go _ (f1.mono (fun b i hb => Or.inl hb)) ?_ ?_ e22'
          · rw [f1 _ _ (by omega), e20, rts_succ a, if_neg hc]
          · rw [f1 _ _ (by omega), e21, wrs_succ, if_neg (by omega)]
        · rw [nI_eq (by omega) (by omega)] at hc hc2
          refine ⟨vin (by omega) (by omega), vin (by omega) (by omega), go _ ((f1.mono (fun b i hb => Or.inl hb)).up (by omega)) ?_ ?_ (fun w hw => ?_)⟩
          · rw [up2_get, if_neg (by omega), f1 _ _ (by omega), e20, rts_succ a, if_neg hc]
          · rw [up2_same, wrs_succ, if_pos ⟨hc, hc2⟩]
          · rw [up2_get, if_neg (by omega)]; exact e22' w hw
    have outer : ∀ d r J, r + d = aq a ^ an a → Fr waP I J → J 0 40 = 1 → (∀ r', r' < r → done J a r') → M_worksAll_l15 Q (d + 1) J (nI r) := by
      intro d
      induction d with
      | zero =>
        intro r J hr f e40 hd
        have : r = aq a ^ an a := by omega
        subst this
        have RJ := R.eq (I' := J) (fun b i hb => f _ _ (by unfold waP; omega))
        rw [M_worksAll_l15, RJ.2.1]
        exact it (nI_le (Nat.le_refl _) (by omega)) (h J f RJ e40 hd)
      | succ d ih =>
        intro r J hr f e40 hd
        have RJ := R.eq (I' := J) (fun b i hb => f _ _ (by unfold waP; omega))
        rw [M_worksAll_l15, RJ.2.1]
        refine ie (nI_ge (by omega) (by omega)) (M_worksRow_kw W RJ (by omega) (fun J1 f1 h17 h18 => ⟨vin (by omega) (by omega), vin (by omega) (by omega), ?_⟩))
        rw [nx_nI (by omega)]
        have f2 : Fr (fun b i => b = 17 ∨ b = 18 ∨ b = 19 ∨ (b = 20 ∨ b = 21) ∧ i = r) J (up2 (up2 J1 20 r 0) 21 r 0) := ((f1.mono (fun b i hb => by unfold rwP at hb; omega)).up (by omega)).up (by omega)
        refine ⟨an a + 1, inner _ r (by omega) (fun J' f' e' hd' => ih (r + 1) J' (by omega) f' e' hd') (an a) 0 _ (by omega) (f.tr (f2.mono (fun b i hb => by unfold waP; omega))) ((f2 _ _ (by omega)).trans e40) (fun r' hr' => ?_) (fun w hw => ?_) (fun w hw => ?_) ?_ ?_ (fun w hw => by omega)⟩
        · obtain ⟨d1, d2, d3⟩ := hd r' hr'
          exact ⟨(f2 _ _ (by omega)).trans d1, (f2 _ _ (by omega)).trans d2, fun w hw => (f2 _ _ (by omega)).trans (d3 w hw)⟩
        · rw [up2_get, if_neg (by omega), up2_get, if_neg (by omega)]; exact h17 w hw
        · rw [up2_get, if_neg (by omega), up2_get, if_neg (by omega)]; exact h18 w hw
        · rw [up2_get, if_neg (by omega), up2_same]; rfl
        · rw [up2_same]; rfl
    exact ⟨aq a ^ an a + 1, outer (aq a ^ an a) 0 _ (by omega) (Fr.rf.up (Or.inr ⟨rfl, rfl⟩)) (up2_same _ _ _ _) (fun r' hr' => by omega)⟩
  · rw [h1]
    exact ie (by decide) (h I Fr.rf R h1 h2)
