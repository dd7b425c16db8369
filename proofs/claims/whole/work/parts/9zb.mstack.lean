/-! rules: the reference's stack and what it has read -/
def stg (o : Nat) : Nat := if o = 12 then 0 else if o = 5 then 1 else if o = 4 then 2 else if o = 3 then 3 else if o = 6 then 4 else if o = 7 then 4 else if o = 8 then 5 else if o = 9 then 5 else 6
theorem M_stg {o : Nat} (h : o ≤ 12) {Q : Int32 → Prop} (hQ : Q (nI (stg o))) : M_strength (nI o) Q := by
  have hc : o = 0 ∨ o = 1 ∨ o = 2 ∨ o = 3 ∨ o = 4 ∨ o = 5 ∨ o = 6 ∨ o = 7 ∨ o = 8 ∨ o = 9 ∨ o = 10 ∨ o = 11 ∨ o = 12 := by omega
  rcases hc with h1 | h1 | h1 | h1 | h1 | h1 | h1 | h1 | h1 | h1 | h1 | h1 | h1 <;> subst h1 <;> (unfold M_strength; simp (decide := true) only [if_true, if_false]; exact hQ)
theorem stg_le (o : Nat) : stg o ≤ 6 := by
  unfold stg
  repeat' split
  all_goals omega
def mlE (E : AC) : Nat := mcl E - 1
theorem mcl_app : ∀ (A B : AC), mcl (A ++ B) + 1 = mcl A + mcl B
  | [], B => by simp only [List.nil_append, mcl]; omega
  | (o, x) :: r, B => by
    have := mcl_app r B
    simp only [List.cons_append, mcl]
    omega
theorem ml_app (A B : AC) : mlE (A ++ B) = mlE A + mlE B := by
  have := mcl_app A B
  have := mcl_pos A
  have := mcl_pos B
  have := mcl_pos (A ++ B)
  unfold mlE
  omega
/-- the cells of read from p on hold the code E -/
def OU (I : HI) (p : Nat) (E : AC) : Prop := ∀ C : Nat → Int32, (∀ k, p ≤ k → k < p + mlE E → C k = I 14 k) → ∀ rest, mco C rest (p + mlE E) → mco C (E ++ rest) p
theorem OU.nil (I : HI) (p : Nat) : OU I p [] := fun C _ rest h => h
theorem OU.fr {I I' : HI} {p : Nat} {E : AC} (h : OU I p E) (f : ∀ k, k < p + mlE E → I' 14 k = I 14 k) : OU I' p E := fun C hC rest hr => h C (fun k h1 h2 => (hC k h1 h2).trans (f k h2)) rest hr
theorem OU.one {I : HI} {p : Nat} {E : AC} {o x : Nat} (h : OU I p E) (ho : ¬ o ≤ 2) (e : I 14 (p + mlE E) = nI o) : OU I p (E ++ [(o, x)]) := by
  intro C hC rest hr
  have e1 : mlE [(o, x)] = 1 := by unfold mlE mcl; rw [if_neg ho]; rfl
  rw [ml_app, e1] at hC hr
  rw [List.append_assoc]
  refine h C (fun k h1 h2 => hC k h1 (by omega)) _ ?_
  show mco C ((o, x) :: rest) _
  unfold mco
  rw [if_neg ho]
  exact ⟨(hC _ (by omega) (by omega)).trans e, hr⟩
theorem OU.two {I : HI} {p : Nat} {E : AC} {o x : Nat} (h : OU I p E) (ho : o ≤ 2) (e : I 14 (p + mlE E) = nI o) (e2 : I 14 (p + mlE E + 1) = nI x) : OU I p (E ++ [(o, x)]) := by
  intro C hC rest hr
  have e1 : mlE [(o, x)] = 2 := by unfold mlE mcl; rw [if_pos ho]; rfl
  rw [ml_app, e1] at hC hr
  rw [List.append_assoc]
  refine h C (fun k h1 h2 => hC k h1 (by omega)) _ ?_
  show mco C ((o, x) :: rest) _
  unfold mco
  rw [if_pos ho]
  exact ⟨(hC _ (by omega) (by omega)).trans e, (hC _ (by omega) (by omega)).trans e2, hr⟩
/-- the stack that waits, its top first -/
def Stk (I : HI) : List Nat → Prop
  | [] => True
  | o :: r => I 15 r.length = nI o ∧ Stk I r
theorem Stk.fr {I I' : HI} : ∀ {S : List Nat}, Stk I S → (∀ k, k < S.length → I' 15 k = I 15 k) → Stk I' S
  | [], _, _ => trivial
  | o :: r, h, f => ⟨(f _ (by simp)).trans h.1, Stk.fr h.2 (fun k hk => f k (by simp only [List.length_cons]; omega))⟩
def MM (I : HI) (p : Nat) (E : AC) (S : List Nat) : Prop := I 0 28 = nI (p + mlE E) ∧ OU I p E ∧ I 0 29 = nI S.length ∧ Stk I S ∧ p + mlE E + S.length ≤ 1200 ∧ S.length ≤ 510 ∧ ∀ o ∈ S, 3 ≤ o ∧ o ≤ 12
def FrS (p : Nat) (I I' : HI) : Prop := ∀ a i, ¬ (a = 0 ∧ (i = 28 ∨ i = 29)) → ¬ (a = 14 ∧ p ≤ i) → a ≠ 15 → I' a i = I a i
theorem FrS.rfl {p : Nat} {I : HI} : FrS p I I := fun _ _ _ _ _ => Eq.refl _
theorem FrS.trans {p : Nat} {I I1 I2 : HI} (h : FrS p I I1) (h2 : FrS p I1 I2) : FrS p I I2 := fun a i n n2 n3 => (h2 a i n n2 n3).trans (h a i n n2 n3)
theorem mWaits {I : HI} {p o : Nat} {E : AC} {S : List Nat} {Q : HI → Prop} (h : MM I p E S) (h1 : p + mlE E + S.length + 1 ≤ 1200) (h2 : S.length + 1 ≤ 510) (h3 : 3 ≤ o) (h4 : o ≤ 12) (K : ∀ I', FrS p I I' → MM I' p E (o :: S) → Q I') : M_waitsFor I (nI o) Q := by
  obtain ⟨a1, a2, a3, a4, a5, a6, a7⟩ := h
  unfold M_waitsFor
  rw [a3, nx_nI (by omega), up2_ne _ _ _ (by decide), a3, nI_1]
  refine ⟨vin (by omega) (by decide), K _ (fun a i n n2 n3 => ?_) ⟨?_, ?_, ?_, ⟨?_, ?_⟩, ?_, ?_, ?_⟩⟩
  · rw [up2_get, if_neg (by omega), up2_ne _ _ _ n3]
  · rw [up2_idx _ _ _ (by decide), up2_ne _ _ _ (by decide), a1]
  · exact a2.fr (fun k _ => by rw [up2_ne _ _ _ (by decide), up2_ne _ _ _ (by decide)])
  · rw [up2_same]; rfl
  · rw [up2_ne _ _ _ (by decide), up2_same]
  · exact a4.fr (fun k hk => by rw [up2_ne _ _ _ (by decide), up2_idx _ _ _ (by omega)])
  · simp only [List.length_cons]; omega
  · simp only [List.length_cons]; omega
  · intro x hx
    rcases List.mem_cons.mp hx with e | e
    · subst e; exact ⟨h3, h4⟩
    · exact a7 x e
theorem mPuts1 {I : HI} {p o : Nat} {E : AC} {S : List Nat} {Q : HI → Prop} (h : MM I p E S) (h1 : p + mlE E + S.length + 1 ≤ 1200) (ho : ¬ o ≤ 2) (K : ∀ I', FrS p I I' → MM I' p (E ++ [(o, 0)]) S → Q I') : M_puts I (nI o) Q := by
  obtain ⟨a1, a2, a3, a4, a5, a6, a7⟩ := h
  have e1 : mlE [((o : Nat), (0 : Nat))] = 1 := by unfold mlE mcl; rw [if_neg ho]; rfl
  unfold M_puts
  rw [a1, nx_nI (by omega), up2_ne _ _ _ (by decide), a1, nI_1]
  refine ⟨vin (by omega) (by decide), K _ (fun a i n n2 n3 => ?_) ⟨?_, ?_, ?_, ?_, ?_, a6, a7⟩⟩
  · rw [up2_get, if_neg (by omega), up2_get, if_neg (by omega)]
  · rw [up2_same, ml_app, e1]; rfl
  · refine OU.one (a2.fr (fun k hk => by rw [up2_ne _ _ _ (by decide), up2_idx _ _ _ (by omega)])) ho ?_
    rw [up2_ne _ _ _ (by decide), up2_same]
  · rw [up2_idx _ _ _ (by decide), up2_ne _ _ _ (by decide), a3]
  · exact a4.fr (fun k hk => by rw [up2_ne _ _ _ (by decide), up2_ne _ _ _ (by decide)])
  · rw [ml_app, e1]; omega
theorem mPuts2 {I : HI} {p o x : Nat} {E : AC} {S : List Nat} {Q : HI → Prop} {y : HI → Int32} (h : MM I p E S) (h1 : p + mlE E + S.length + 2 ≤ 1200) (ho : o ≤ 2) (hy : ∀ I', FrS p I I' → y I' = nI x) (K : ∀ I', FrS p I I' → MM I' p (E ++ [(o, x)]) S → Q I') : M_puts I (nI o) (fun I1 => M_puts I1 (y I1) Q) := by
  obtain ⟨a1, a2, a3, a4, a5, a6, a7⟩ := h
  have e1 : mlE [((o : Nat), (x : Nat))] = 2 := by unfold mlE mcl; rw [if_pos ho]; rfl
  unfold M_puts
  rw [a1, nx_nI (by omega), up2_ne _ _ _ (by decide), a1, nI_1]
  have f1 : FrS p I (up2 (up2 I 14 (p + mlE E) (nI o)) 0 28 (nI (p + mlE E + 1))) := fun a i n n2 n3 => by
    rw [up2_get, if_neg (by omega), up2_get, if_neg (by omega)]
  dsimp only
  rw [hy _ f1]
  refine ⟨vin (by omega) (by decide), ?_⟩
  rw [up2_same, nx_nI (by omega), up2_ne _ _ _ (by decide), up2_same, nI_1]
  refine ⟨vin (by omega) (by decide), K _ (fun a i n n2 n3 => ?_) ⟨?_, ?_, ?_, ?_, ?_, a6, a7⟩⟩
  · rw [up2_get, if_neg (by omega), up2_get, if_neg (by omega), up2_get, if_neg (by omega), up2_get, if_neg (by omega)]
  · rw [up2_same, ml_app, e1]; rfl
  · refine OU.two (a2.fr (fun k hk => by rw [up2_ne _ _ _ (by decide), up2_idx _ _ _ (by omega), up2_ne _ _ _ (by decide), up2_idx _ _ _ (by omega)])) ho ?_ ?_
    · rw [up2_ne _ _ _ (by decide), up2_idx _ _ _ (by omega), up2_ne _ _ _ (by decide), up2_same]
    · rw [up2_ne _ _ _ (by decide), up2_same]
  · rw [up2_idx _ _ _ (by decide), up2_ne _ _ _ (by decide), up2_idx _ _ _ (by decide), up2_ne _ _ _ (by decide), a3]
  · exact a4.fr (fun k hk => by rw [up2_ne _ _ _ (by decide), up2_ne _ _ _ (by decide), up2_ne _ _ _ (by decide), up2_ne _ _ _ (by decide)])
  · rw [ml_app, e1]; omega
def its (P : List Nat) : AC := P.map (fun o => (o, 0))
/-- the stack below: none, an open one, or of less strength -/
def Lowr (x : Nat) : List Nat → Prop
  | [] => True
  | o :: _ => o = 12 ∨ stg o < x
theorem drops_l0 {p x : Nat} {Q : HI → Prop} (hx : x ≤ 6) {S : List Nat} (hS : Lowr x S) : ∀ (P : List Nat) (E : AC) (I : HI), MM I p E (P ++ S) → (∀ o ∈ P, o ≠ 12 ∧ x ≤ stg o) → (∀ I', FrS p I I' → MM I' p (E ++ its P) S → Q I') → M_drops_l0 (nI x) Q (P.length + 1) I := by
  intro P
  induction P with
  | nil =>
    intro E I h hP K
    simp only [List.nil_append] at h
    unfold M_drops_l0
    have hK := K I FrS.rfl (by simp only [its, List.map_nil, List.append_nil]; exact h)
    obtain ⟨a1, a2, a3, a4, a5, a6, a7⟩ := h
    rw [a3]
    cases S with
    | nil => exact it (by decide) hK
    | cons o r =>
      have ho := a7 o List.mem_cons_self
      simp only [List.length_cons] at a3 a5 a6 ⊢
      rw [show nI (r.length + 1) - 1 = nI r.length from by rw [nlit1, nS (by omega)]; rfl, nx_nI (by omega), a4.1]
      refine ie (nI_nle (by omega) (by omega)) ⟨vin (by omega) (by decide), ic (fun _ => hK) (fun h12 => ⟨vin (by omega) (by decide), M_stg ho.2 (it ?_ hK)⟩)⟩
      rcases hS with e | e
      · exact absurd (by rw [e]; rfl) h12
      · exact nI_lt e (by omega)
  | cons o r ih =>
    intro E I h hP K
    have hr : (r ++ S).length = r.length + S.length := List.length_append
    obtain ⟨a1, a2, a3, a4, a5, a6, a7⟩ := h
    have ho := a7 o List.mem_cons_self
    have hp := hP o List.mem_cons_self
    have a4 : Stk I (o :: (r ++ S)) := a4
    have a41 : I 15 (r ++ S).length = nI o := a4.1
    simp only [List.cons_append, List.length_cons] at a3 a5 a6
    show M_drops_l0 (nI x) Q (r.length + 1 + 1) I
    unfold M_drops_l0
    rw [a3, show nI ((r ++ S).length + 1) - 1 = nI (r ++ S).length from by rw [nlit1, nS (by omega)]; rfl, up2_same, nx_nI (by omega), a41, up2_ne _ _ _ (by decide), a41]
    refine ie (nI_nle (by omega) (by omega)) ⟨vin (by omega) (by decide), ie (fun e => hp.1 ((nI_eq (by omega) (by decide)).mp (show nI o = nI 12 from e))) ⟨vin (by omega) (by decide), M_stg ho.2 (ie (nI_nlt hp.2 (by have := stg_le o; omega)) ⟨vin (by omega) (by decide), ?_⟩)⟩⟩
    have hm : MM (up2 I 0 29 (nI (r ++ S).length)) p E (r ++ S) := ⟨by rw [up2_idx _ _ _ (by decide), a1], a2.fr (fun k _ => by rw [up2_ne _ _ _ (by decide)]), up2_same _ _ _ _, a4.2.fr (fun k _ => by rw [up2_ne _ _ _ (by decide)]), by omega, by omega, fun o ho => a7 o (List.mem_cons_of_mem _ ho)⟩
    refine mPuts1 hm (by omega) (by omega) (fun I1 f1 h1 => ih _ I1 h1 (fun o ho => hP o (List.mem_cons_of_mem _ ho)) (fun I2 f2 h2 => K I2 ?_ ?_))
    · refine FrS.trans (FrS.trans (fun a i n n2 n3 => ?_) f1) f2
      rw [up2_get, if_neg (by omega)]
    · rw [List.append_assoc] at h2
      exact h2
theorem mDrops {p x : Nat} {Q : HI → Prop} {I : HI} {E : AC} {P S : List Nat} (hx : x ≤ 6) (hS : Lowr x S) (h : MM I p E (P ++ S)) (hP : ∀ o ∈ P, o ≠ 12 ∧ x ≤ stg o) (K : ∀ I', FrS p I I' → MM I' p (E ++ its P) S → Q I') : M_drops I (nI x) Q := ⟨_, drops_l0 hx hS P E I h hP K⟩
