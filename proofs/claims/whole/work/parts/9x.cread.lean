/-! rules: the class's reader on the grammar -/
theorem SP_part {t : Nat → Nat} {m n : Nat} {ro : Nat → Rs} (hr : SP m n ro) (h1n : 1 ≤ n) : SP m n (spPart t m n ro) := by
  intro s hsm p h
  unfold spPart at h
  split at h
  · rename_i hk
    have hn := nxt_gt t (kd_lt (show tK t m s ≠ 128 by omega))
    have hn2 := nxt_le t hsm
    cases hq : ro (nxt t m s) with
    | error e => rw [hq] at h; exact absurd h (by simp)
    | ok p1 =>
      rw [hq] at h
      obtain ⟨a1, a2, a3, a4⟩ := hr _ hn2 p1 hq
      simp only at h
      split at h
      · rename_i hk2
        have hn3 := nxt_gt t (kd_lt (show tK t m p1.1 ≠ 128 by omega))
        simp only [Except.ok.injEq] at h
        subst h
        exact ⟨by simp only; omega, nxt_le t a2, a3, a4⟩
      · exact absurd h (by simp)
  · split at h
    · rename_i hk
      have hn := nxt_gt t (kd_lt (show tK t m s ≠ 128 by omega))
      simp only [Except.ok.injEq] at h
      subst h
      exact ⟨by simp only [List.length_cons, List.length_nil]; omega, nxt_le t hsm, by simp, fun d rest hc => Or.inl ⟨Or.inl ⟨rfl, tV_le hk⟩, hc⟩⟩
    · split at h
      · exact absurd h (by simp)
      · split at h
        · exact absurd h (by simp)
        · rename_i hk0 hk1 hk2 hk3
          have hn := nxt_gt t (kd_lt (show tK t m s ≠ 128 by omega))
          have hn2 := nxt_le t hsm
          split at h
          · rename_i hk4
            cases hq : spWear t m n (nxt t m s) with
            | error e => rw [hq] at h; exact absurd h (by simp)
            | ok p1 =>
              rw [hq] at h
              unfold spWear at hq
              split at hq
              · rename_i hk5
                split at hq
                · rename_i hv
                  simp only [Except.ok.injEq] at hq h
                  subst hq
                  subst h
                  have hn3 := nxt_gt t (kd_lt (show tK t m (nxt t m s) ≠ 128 by omega))
                  exact ⟨by simp only [List.length_cons, List.length_nil]; omega, nxt_le t hn2, by simp, fun d rest hc => Or.inl ⟨Or.inr ⟨rfl, ⟨by omega, by omega, by omega⟩⟩, hc⟩⟩
                · exact absurd hq (by simp)
              · exact absurd hq (by simp)
          · simp only [Except.ok.injEq] at h
            subst h
            exact ⟨by simp only [List.length_cons, List.length_nil]; omega, hn2, by simp, fun d rest hc => Or.inl ⟨Or.inr ⟨rfl, ⟨by omega, by omega, by omega⟩⟩, hc⟩⟩
theorem SP_or {t : Nat → Nat} {m n : Nat} (h1n : 1 ≤ n) : ∀ d, SP m n (spOr t m n d)
  | 0 => fun s hs p h => by unfold spOr at h; exact absurd h (by simp)
  | d + 1 => fun s hs p h => by
    unfold spOr at h
    exact SP_bin (SP_bin (SP_not (SP_test (SP_bin (SP_bin (SP_part (SP_or h1n d) h1n) opP_ok) opS_ok)) 6) opA_ok) opO_ok s hs p h
theorem tK_ne (t : Nat → Nat) (m s : Nat) : tK t m s ≠ 130 ∧ tK t m s < 256 := by
  have hw : ∀ (ws : List (List Nat)) (k : Nat) (x : List Nat), k + ws.length < 256 → wfd x ws k < 256 := by
    intro ws
    induction ws with
    | nil => intro k x h; simp [wfd]
    | cons w r ih => intro k x h; simp only [wfd]; simp only [List.length_cons] at h; split; omega; exact ih _ _ (by omega)
  rcases tK_cases t m s with ⟨-, e, -⟩ | ⟨-, -, -, e1, e⟩ | ⟨h1, h2, h3, e2, e1⟩ | ⟨-, -, -, -, h6⟩
  · omega
  · exact ⟨by omega, by rw [e1]; exact hw _ _ _ (by decide)⟩
  · rw [e1]; split <;> omega
  · rcases h6 with ⟨-, e, h7, -⟩ | ⟨-, e⟩ <;> omega
/-- the class's reader at the token that begins at s, c parts being made -/
def CS (t : Nat → Nat) (m n : Nat) (I : HI) (s c : Nat) : Prop := Txt t m I ∧ s ≤ m ∧ I 28 6 = nI (tE t m s) ∧ I 28 7 = nI s ∧ I 28 8 = nI (tK t m s) ∧ (tK t m s = 131 → I 28 9 = nI (tV t m s)) ∧ I 28 5 = nI n ∧ n ≤ 8 ∧ I 28 13 = nI c ∧ c ≤ s
def FrK (c : Nat) (I I' : HI) : Prop := ∀ a i, ¬ (a = 28 ∧ (6 ≤ i ∧ i ≤ 9 ∨ i = 13)) → ¬ ((a = 31 ∨ a = 32 ∨ a = 33) ∧ c ≤ i) → I' a i = I a i
def FrR (I I' : HI) : Prop := ∀ a i, a ≠ 28 → a ≠ 31 → a ≠ 32 → a ≠ 33 → I' a i = I a i
theorem FrK.rfl {c : Nat} {I : HI} : FrK c I I := fun _ _ _ _ => Eq.refl _
theorem FrK.trans {c d : Nat} {I I1 I2 : HI} (h : FrK c I I1) (h2 : FrK d I1 I2) (hcd : c ≤ d) : FrK c I I2 := fun a i n n2 => (h2 a i n (fun e => n2 ⟨e.1, by omega⟩)).trans (h a i n n2)
theorem FrK.frR {c : Nat} {I I1 I2 : HI} (h : FrK c I I1) (h2 : FrR I1 I2) : FrR I I2 := fun a i n1 n2 n3 n4 => (h2 a i n1 n2 n3 n4).trans (h a i (fun e => n1 e.1) (fun e => by omega))
theorem FrT.frK {c : Nat} {I I' : HI} (h : FrT I I') : FrK c I I' := fun a i n _ => h a i (fun e => n ⟨e.1, Or.inl e.2⟩)
/-- the parts from c on hold the code E -/
def CE (I : HI) (E : AC) (c : Nat) : Prop := ∀ (I' : HI) (k l q : Nat), (∀ i, c ≤ i → i < c + E.length → I' k i = I 31 i ∧ I' l i = I 32 i ∧ I' q i = I 33 i) → ∀ st rest, crel I' k l q rest (c + E.length) ((c + E.length - 1) :: st) → crel I' k l q (E ++ rest) c st
theorem CE.fr {I I' : HI} {E : AC} {c d : Nat} (h : CE I E c) (f : FrK d I I') (hd : c + E.length ≤ d) : CE I' E c := fun I2 k l q hk => h I2 k l q (fun i h1 h2 => by
  have := hk i h1 h2
  rw [f 31 i (by omega) (by omega), f 32 i (by omega) (by omega), f 33 i (by omega) (by omega)] at this
  exact this)
theorem CE.two {I : HI} {A B : AC} {c o : Nat} (hA : 1 ≤ A.length) (ha : CE I A c) (hb : CE I B (c + A.length)) (h1 : 4 ≤ o) (e1 : I 31 (c + A.length + B.length) = nI (ckd o 0)) (e2 : I 32 (c + A.length + B.length) = nI (c + A.length - 1)) (e3 : I 33 (c + A.length + B.length) = nI (c + A.length + B.length - 1)) : CE I (A ++ B ++ [(o, 0)]) c := by
  intro I' k l q hk st rest h
  simp only [List.length_append, List.length_cons, List.length_nil] at hk h
  rw [List.append_assoc, List.append_assoc]
  refine ha I' k l q (fun i h2 h3 => hk i h2 (by omega)) st _ (hb I' k l q (fun i h2 h3 => hk i (by omega) (by omega)) _ _ ?_)
  show crel I' k l q ((o, 0) :: rest) _ _
  have h9 := hk (c + A.length + B.length) (by omega) (by omega)
  unfold crel
  refine ⟨h9.1.trans e1, ?_⟩
  rw [if_neg (by omega), if_neg (by omega)]
  simp only
  rw [if_neg (by omega)]
  refine ⟨h9.2.1.trans e2, h9.2.2.trans e3, ?_⟩
  rw [show c + (A.length + B.length + (0 + 1)) = c + A.length + B.length + 1 by omega] at h
  exact h
theorem CE.no {I : HI} {A : AC} {c : Nat} (hA : 1 ≤ A.length) (ha : CE I A c) (e1 : I 31 (c + A.length) = nI 151) (e2 : I 32 (c + A.length) = nI (c + A.length - 1)) (e3 : I 33 (c + A.length) = nI (c + A.length - 1)) : CE I (A ++ [(3, 0)]) c := by
  intro I' k l q hk st rest h
  simp only [List.length_append, List.length_cons, List.length_nil] at hk h
  rw [List.append_assoc]
  refine ha I' k l q (fun i h2 h3 => hk i h2 (by omega)) st _ ?_
  show crel I' k l q ((3, 0) :: rest) _ _
  have h9 := hk (c + A.length) (by omega) (by omega)
  unfold crel
  refine ⟨h9.1.trans e1, ?_⟩
  rw [if_neg (by omega), if_neg (by omega)]
  simp only
  rw [if_pos trivial]
  refine ⟨h9.2.1.trans e2, h9.2.2.trans e3, ?_⟩
  rw [show c + (A.length + (0 + 1)) = c + A.length + 1 by omega] at h
  exact h
theorem CE.num {I : HI} {c x : Nat} (e1 : I 31 c = nI 131) (e2 : I 32 c = nI x) : CE I [(1, x)] c := by
  intro I' k l q hk st rest h
  simp only [List.length_cons, List.length_nil] at hk h
  have h9 := hk c (by omega) (by omega)
  show crel I' k l q ((1, x) :: rest) _ _
  unfold crel
  refine ⟨h9.1.trans e1, ?_⟩
  rw [if_pos rfl]
  exact ⟨h9.2.1.trans e2, h⟩
theorem CE.val {I : HI} {c x : Nat} (e1 : I 31 c = nI (138 + x % 16)) (e2 : I 32 c = nI (x / 16)) : CE I [(2, x)] c := by
  intro I' k l q hk st rest h
  simp only [List.length_cons, List.length_nil] at hk h
  have h9 := hk c (by omega) (by omega)
  show crel I' k l q ((2, x) :: rest) _ _
  unfold crel
  refine ⟨h9.1.trans e1, ?_⟩
  rw [if_neg (by omega), if_pos rfl]
  exact ⟨h9.2.1.trans e2, h⟩
def CP (t : Nat → Nat) (m n : Nat) (r : Rs) (I : HI) (c : Nat) (Q : Int32 → HI → Prop) : Prop := match r with
  | .error e => ∀ x I', FrR I I' → I' 28 8 = 130 → I' 28 0 = nI e.1 → I' 28 1 = nI e.2 → Q x I'
  | .ok p => ∀ I', FrK c I I' → CS t m n I' p.1 (c + p.2.length) → CE I' p.2 c → Q (nI (c + p.2.length - 1)) I'
def CX (t : Nat → Nat) (m n : Nat) (X : HI → (Int32 → HI → Prop) → Prop) (f : Nat → Rs) : Prop := ∀ s I c Q, CS t m n I s c → CP t m n (f s) I c Q → X I Q
def CZ (X : HI → (Int32 → HI → Prop) → Prop) : Prop := ∀ I Q, I 28 8 = 130 → (∀ x, Q x I) → X I Q
theorem cNext {t : Nat → Nat} {m n s c : Nat} {I : HI} {Q : HI → Prop} (h : CS t m n I s c) (K : ∀ I', FrK c I I' → CS t m n I' (nxt t m s) c → Q I') : Rd_next I Q := by
  obtain ⟨h1, h2, h3, h4, h5, h6, h7, h8, h9, h10⟩ := h
  have hk := tK_ne t m s
  refine Rd_next_k h1 h3 (tE_le t h2) (by rw [h5]; exact fun e => hk.1 ((nI_eq (by omega) (by decide)).mp (show nI _ = nI 130 from e))) (fun I' f e6 e7 e8 e9 => K I' f.frK ?_)
  have h11 := tE_ge t m s
  have h12 := tS_ge t m (tE t m s)
  exact ⟨h1.fr f, nxt_le t h2, e6, e7, e8, e9, (f 28 5 (by omega)).trans h7, h8, (f 28 13 (by omega)).trans h9, by unfold nxt; omega⟩
theorem cStop {t : Nat → Nat} {m n s c f : Nat} {I : HI} {Q : HI → Prop} (h : CS t m n I s c) (K : ∀ I', FrR I I' → I' 28 8 = 130 → I' 28 0 = nI f → I' 28 1 = nI s → Q I') : Rd_stop I (nI f) Q := by
  obtain ⟨h1, h2, h3, h4, h5, h6, h7, h8, h9, h10⟩ := h
  have hk := tK_ne t m s
  unfold Rd_stop
  refine ie (by rw [h5]; exact fun e => hk.1 ((nI_eq (by omega) (by decide)).mp (show nI _ = nI 130 from e))) (K _ (fun a i n1 n2 n3 n4 => ?_) ?_ ?_ ?_)
  · rw [up2_ne _ _ _ n1, up2_ne _ _ _ n1, up2_ne _ _ _ n1]
  · rw [up2_same]
  · rw [up2_idx _ _ _ (by decide), up2_idx _ _ _ (by decide), up2_same]
  · rw [up2_idx _ _ _ (by decide), up2_same, up2_idx _ _ _ (by decide), h4]
theorem cAdd {t : Nat → Nat} {m n s c : Nat} {I : HI} {x y z : Int32} {Q : Int32 → HI → Prop} (h : CS t m n I s c) (hc : c + 1 ≤ s) (K : ∀ I', FrK c I I' → CS t m n I' s (c + 1) → I' 31 c = x → I' 32 c = y → I' 33 c = z → Q (nI c) I') : Rd_add I x y z Q := by
  obtain ⟨h1, h2, h3, h4, h5, h6, h7, h8, h9, h10⟩ := h
  have hk := tK_ne t m s
  have hm := h1.2.1
  unfold Rd_add
  have n0 : ∀ v, (up2 I 31 c v) 28 13 = nI c := fun v => by rw [up2_ne _ _ _ (by decide), h9]
  have n1 : ∀ v w, (up2 (up2 I 31 c v) 32 c w) 28 13 = nI c := fun v w => by rw [up2_ne _ _ _ (by decide), n0]
  have n2 : ∀ v w u, (up2 (up2 (up2 I 31 c v) 32 c w) 33 c u) 28 13 = nI c := fun v w u => by rw [up2_ne _ _ _ (by decide), n1]
  have v5 : vp_in (nI c) 500 := vin (by omega) (by decide)
  simp only [h9, nx_nI (show c < 2 ^ 31 by omega), n0, n1, n2, up2_same]
  refine ie (by rw [h5]; exact fun e => hk.1 ((nI_eq (by omega) (by decide)).mp (show nI _ = nI 130 from e))) (it (nI_lt (show c < 500 by omega) (by decide)) ⟨v5, v5, v5, ?_⟩)
  rw [nI_1, show nI (c + 1) - 1 = nI c from by rw [nlit1, nS (by omega)]; rfl]
  have f : FrK c I (up2 (up2 (up2 (up2 I 31 c x) 32 c y) 33 c z) 28 13 (nI (c + 1))) := fun a i n n2 => by
    rw [up2_get, if_neg (by omega), up2_get, if_neg (by omega), up2_get, if_neg (by omega), up2_get, if_neg (by omega)]
  have g : ∀ i, i ≠ 13 → (up2 (up2 (up2 (up2 I 31 c x) 32 c y) 33 c z) 28 13 (nI (c + 1))) 28 i = I 28 i := fun i hi => by
    rw [up2_idx _ _ _ hi, up2_ne _ _ _ (by decide), up2_ne _ _ _ (by decide), up2_ne _ _ _ (by decide)]
  refine K _ f ⟨⟨(g 4 (by decide)).trans h1.1, h1.2.1, fun k hk => ⟨(f 34 k (by omega) (by omega)).trans (h1.2.2 k hk).1, (h1.2.2 k hk).2⟩⟩, h2, (g 6 (by decide)).trans h3, (g 7 (by decide)).trans h4, (g 8 (by decide)).trans h5, fun e => (g 9 (by decide)).trans (h6 e), (g 5 (by decide)).trans h7, h8, up2_same _ _ _ _, hc⟩ ?_ ?_ ?_
  · rw [up2_ne _ _ _ (by decide), up2_ne _ _ _ (by decide), up2_ne _ _ _ (by decide), up2_same]
  · rw [up2_ne _ _ _ (by decide), up2_ne _ _ _ (by decide), up2_same]
  · rw [up2_ne _ _ _ (by decide), up2_same]
theorem zNext {I : HI} {Q : HI → Prop} (h : I 28 8 = 130) (K : Q I) : Rd_next I Q := by unfold Rd_next; exact it h K
theorem zStop {I : HI} {x : Int32} {Q : HI → Prop} (h : I 28 8 = 130) (K : Q I) : Rd_stop I x Q := by unfold Rd_stop; exact it h K
theorem zAdd {I : HI} {x y z : Int32} {Q : Int32 → HI → Prop} (h : I 28 8 = 130) (K : Q 0 I) : Rd_add I x y z Q := by unfold Rd_add; exact it h K
theorem zNumber {I : HI} {x : Int32} {Q : Int32 → HI → Prop} (h : I 28 8 = 130) (K : Q 0 I) : Rd_readNumber I x Q := by
  unfold Rd_readNumber Rd_readNumber_b26
  exact ie (by rw [h]; decide) (ie (by rw [h]; decide) (ie (by rw [h]; decide) (zStop h K)))
theorem zExpect {I : HI} {x : Int32} {Q : HI → Prop} (h : I 28 8 = 130) (hx : (130 : Int32) ≠ x) (K : Q I) : Rd_expect I x Q := by
  unfold Rd_expect
  exact ie (by rw [h]; exact hx) (zStop h K)
