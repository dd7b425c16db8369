/-! the class: a text's guess -/
def vrel (I : HI) (v : Nat) : List Nat → List Int32 → Prop
  | [], [] => True
  | i :: st, x :: s => I v i = x ∧ vrel I v st s
  | _, _ => False
theorem vrel_up {I : HI} {v i : Nat} {y : Int32} : ∀ {st : List Nat} {s : List Int32}, (∀ b ∈ st, b < i) → vrel I v st s → vrel (up2 I v i y) v st s
  | [], [], _, _ => trivial
  | j :: st, x :: s, hb, h => ⟨by rw [up2_get, if_neg (by have := hb j List.mem_cons_self; omega)]; exact h.1, vrel_up (fun b hm => hb b (List.mem_cons_of_mem _ hm)) h.2⟩
  | [], _ :: _, _, h => h.elim
  | _ :: _, [], _, h => h.elim
theorem Frm_look_k {I : HI} {r r1 i f n0 k l q v : Nat} {a : AN} {h g : Nat → Nat} {w o x : Nat} (W : WF a) (C : CRow I r r1 a h g w) (hw : w < an a) (hi : i < n0) (hn : n0 ≤ 500) (ek : I k i = nI (ckd o x)) (ho : o = 1 ∧ x ≤ 999 ∧ I l i = nI x ∨ o = 2 ∧ vok (an a) x ∧ I l i = nI (x / 16)) {Q : Int32 → Prop} (hq : Q (if o = 1 then nI x else nI (valo a h g w x))) : Frm_look I f n0 k l q v (nI i) r1 (nI w) r Q := by
  obtain ⟨N, c1, c2⟩ := C
  have n8 := W.2.1
  have h256 := p2le n8
  have hl := (W.2.2.2.2.2 w hw).1
  have hrl : ahr a w < 2 ^ an a := hr_lt (an a) (ard a) w
  have e5 : I (r1 + 3) w = nI (ahr a w) := N.2.2.2.2.2.1 w hw
  unfold Frm_look
  rw [nx_nI (by omega), ek, nx_nI (show w < 2 ^ 31 by omega), N.2.2.2.1 w hw, e5, N.1, N.2.1]
  refine ⟨vin hi (by omega), vin hi (by omega), ?_⟩
  rcases ho with ⟨rfl, hx, el⟩ | ⟨rfl, ⟨v1, v2, v3⟩, el⟩
  · rw [el]; exact it rfl hq
  · rw [el]
    have hq : Q (nI (valo a h g w x)) := hq
    have ck : ckd 2 x = 138 + x % 16 := rfl
    rw [ck]
    unfold valo at hq
    have cmp : ∀ j : Nat, j < 200 → (nI (138 + x % 16) = nI j ↔ 138 + x % 16 = j) := fun j hj => nI_eq (by omega) (by omega)
    rw [show (131 : Int32) = nI 131 from rfl, show (144 : Int32) = nI 144 from rfl, show (145 : Int32) = nI 145 from rfl, show (146 : Int32) = nI 146 from rfl, show (147 : Int32) = nI 147 from rfl, show (148 : Int32) = nI 148 from rfl, show (149 : Int32) = nI 149 from rfl]
    refine ie (fun e => by rw [cmp 131 (by omega)] at e; omega) ?_
    by_cases c6 : x % 16 = 6
    · rw [if_pos c6] at hq; exact it ((cmp 144 (by omega)).mpr (by omega)) hq
    rw [if_neg c6] at hq; refine ie (fun e => by rw [cmp 144 (by omega)] at e; omega) ?_
    by_cases c7 : x % 16 = 7
    · rw [if_pos c7] at hq; exact it ((cmp 145 (by omega)).mpr (by omega)) hq
    rw [if_neg c7] at hq; refine ie (fun e => by rw [cmp 145 (by omega)] at e; omega) ?_
    by_cases c8 : x % 16 = 8
    · rw [if_pos c8] at hq; exact it ((cmp 146 (by omega)).mpr (by omega)) hq
    rw [if_neg c8] at hq; refine ie (fun e => by rw [cmp 146 (by omega)] at e; omega) ?_
    have p31 : ∀ m, m < 2 ^ an a → m &&& 2 ^ (x / 16) < 2 ^ an a := fun m hm => Nat.lt_of_le_of_lt Nat.and_le_left hm
    by_cases c9 : x % 16 = 9
    · rw [if_pos c9] at hq
      refine it ((cmp 147 (by omega)).mpr (by omega)) ⟨vin (by omega) (by omega), ?_⟩
      rw [nShl1 (x / 16) (by omega), nAnd]
      refine Frm_sum_k n8 (p31 _ hl) (d := h) (fun j hj _ => c1 j hj) ?_
      rw [sumo_one _ v3]; exact hq
    rw [if_neg c9] at hq; refine ie (fun e => by rw [cmp 147 (by omega)] at e; omega) ?_
    by_cases c10 : x % 16 = 10
    · rw [if_pos c10] at hq
      refine it ((cmp 148 (by omega)).mpr (by omega)) ⟨vin (by omega) (by omega), ?_⟩
      rw [nShl1 (x / 16) (by omega), nAnd]
      refine Frm_sum_k n8 (p31 _ hrl) (d := g) (fun j hj hb => c2 j hj ?_) ?_
      · rw [Nat.testBit_and] at hb
        exact ((ahr_bit a w j).mp (by simp at hb; exact hb.1)).2
      · rw [sumo_one _ v3]; exact hq
    rw [if_neg c10] at hq; refine ie (fun e => by rw [cmp 148 (by omega)] at e; omega) ?_
    by_cases c11 : x % 16 = 11
    · rw [if_pos c11] at hq
      exact it ((cmp 149 (by omega)).mpr (by omega)) ⟨vin (by omega) (by omega), Frm_sum_k n8 hl (fun j hj _ => c1 j hj) hq⟩
    rw [if_neg c11] at hq; refine ie (fun e => by rw [cmp 149 (by omega)] at e; omega) ?_
    exact ⟨vin (by omega) (by omega), Frm_sum_k n8 hrl (fun j hj hb => c2 j hj ((ahr_bit a w j).mp hb).2) hq⟩
theorem Frm_join_k {I : HI} {i f n0 k l q v o x b c : Nat} (hi : i < n0) (hb : b < n0) (hc : c < n0) (hn : n0 ≤ 500) (ek : I k i = nI (ckd o x)) (el : I l i = nI c) (eq : I q i = nI b) (ho : 4 ≤ o ∧ o ≤ 11) {Q : Int32 → Prop} (hq : Q (bin o (I v c) (I v b))) : Frm_join I f n0 k l q v (nI i) Q := by
  unfold Frm_join
  rw [nx_nI (show i < 2 ^ 31 by omega), ek, el, eq, nx_nI (show c < 2 ^ 31 by omega), nx_nI (show b < 2 ^ 31 by omega)]
  refine ⟨vin hi (by omega), vin hc (by omega), vin hi (by omega), vin hb (by omega), vin hi (by omega), ?_⟩
  generalize I v c = z at hq ⊢
  generalize I v b = y at hq ⊢
  unfold bin at hq
  rcases (show o = 4 ∨ o = 5 ∨ o = 6 ∨ o = 7 ∨ o = 8 ∨ o = 9 ∨ o = 10 ∨ o = 11 by omega) with rfl | rfl | rfl | rfl | rfl | rfl | rfl | rfl
  · refine ie (show ¬ nI 152 = 42 by decide) (ie (show ¬ nI 152 = 43 by decide) (ie (show ¬ nI 152 = 45 by decide) (ie (show ¬ nI 152 = 47 by decide) (ie (show ¬ nI 152 = 60 by decide) (ie (show ¬ nI 152 = 61 by decide) (ie (show ¬ nI 152 = 151 by decide) (it rfl (ic (fun hx => ?_) (fun hx => ic (fun hy => ?_) (fun hy => ?_))))))))))
    · simp [hx] at hq; exact hq
    · simp [hy] at hq; exact hq
    · simp [hx, hy] at hq; exact hq
  · refine ie (show ¬ nI 153 = 42 by decide) (ie (show ¬ nI 153 = 43 by decide) (ie (show ¬ nI 153 = 45 by decide) (ie (show ¬ nI 153 = 47 by decide) (ie (show ¬ nI 153 = 60 by decide) (ie (show ¬ nI 153 = 61 by decide) (ie (show ¬ nI 153 = 151 by decide) (ie (show ¬ nI 153 = 152 by decide) (ic (fun hx => ic (fun hy => ?_) (fun hy => ?_)) (fun hx => ?_)))))))))
    · simp [hx, hy] at hq; exact hq
    · simp [hy] at hq; exact hq
    · simp [hx] at hq; exact hq
  · refine ie (show ¬ nI 60 = 42 by decide) (ie (show ¬ nI 60 = 43 by decide) (ie (show ¬ nI 60 = 45 by decide) (ie (show ¬ nI 60 = 47 by decide) (it rfl (ic (fun hle => ?_) (fun hle => ?_))))))
    · have : ¬ z < y := fun e => nle_of_lt e hle
      simp [this] at hq; exact hq
    · have : z < y := lt_of_nle hle
      simp [this] at hq; exact hq
  · refine ie (show ¬ nI 61 = 42 by decide) (ie (show ¬ nI 61 = 43 by decide) (ie (show ¬ nI 61 = 45 by decide) (ie (show ¬ nI 61 = 47 by decide) (ie (show ¬ nI 61 = 60 by decide) (it rfl (ic (fun he => ?_) (fun he => ?_)))))))
    · simp [he] at hq; exact hq
    · simp [he] at hq; exact hq
  · exact ie (show ¬ nI 43 = 42 by decide) (it rfl hq)
  · exact ie (show ¬ nI 45 = 42 by decide) (ie (show ¬ nI 45 = 43 by decide) (it rfl hq))
  · exact it rfl hq
  · refine ie (show ¬ nI 47 = 42 by decide) (ie (show ¬ nI 47 = 43 by decide) (ie (show ¬ nI 47 = 45 by decide) (it rfl (ic (fun he => ?_) (fun he => ⟨he, ?_⟩)))))
    · simp [he] at hq; exact hq
    · simp [he] at hq; exact hq
theorem Frm_not_k {I : HI} {i f n0 k l q v x b : Nat} (hi : i < n0) (hb : b < n0) (hn : n0 ≤ 500) (ek : I k i = nI (ckd 3 x)) (el : I l i = nI b) (eq : I q i = nI b) {Q : Int32 → Prop} (hq : Q (if I v b = 0 then 1 else 0)) : Frm_join I f n0 k l q v (nI i) Q := by
  unfold Frm_join
  rw [nx_nI (show i < 2 ^ 31 by omega), ek, el, eq, nx_nI (show b < 2 ^ 31 by omega)]
  refine ⟨vin hi (by omega), vin hb (by omega), vin hi (by omega), vin hb (by omega), vin hi (by omega), ?_⟩
  refine ie (show ¬ nI 151 = 42 by decide) (ie (show ¬ nI 151 = 43 by decide) (ie (show ¬ nI 151 = 45 by decide) (ie (show ¬ nI 151 = 47 by decide) (ie (show ¬ nI 151 = 60 by decide) (ie (show ¬ nI 151 = 61 by decide) (it rfl (ic (fun hz => ?_) (fun hz => ?_))))))))
  · rw [if_pos hz] at hq; exact hq
  · rw [if_neg hz] at hq; exact hq
theorem chk {i pl : Nat} (hi : i < 2 ^ 30) (hp : pl < 2 ^ 30) : nI i = nI pl - 1 ↔ i + 1 = pl := by
  by_cases h : pl = 0
  · subst h
    constructor
    · intro e
      have e2 : nI 0 - 1 = -1 := by decide
      rw [e2] at e
      rcases nneg i with g | g
      · exact absurd e g
      · omega
    · omega
  · rw [nlit1, nS (by omega), nI_eq (by omega) (by omega)]; omega
