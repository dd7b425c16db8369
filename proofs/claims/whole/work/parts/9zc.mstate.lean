/-! rules: the reference's reader, its state -/
def MR (t : Nat → Nat) (m n : Nat) (I : HI) (J : HJ) (s dep : Nat) : Prop := TxtM t m I ∧ s ≤ m ∧ TkM t m s I J ∧ I 0 17 = 0 ∧ I 0 1 = nI n ∧ n ≤ 8 ∧ I 0 30 = nI dep ∧ dep ≤ 6
def MS (t : Nat → Nat) (m n : Nat) (I : HI) (J : HJ) (s p : Nat) (E : AC) (S : List Nat) (dep : Nat) : Prop := MR t m n I J s dep ∧ MM I p E S ∧ p + mlE E + S.length ≤ 2 * s ∧ S.length ≤ s
def FrP (p e : Nat) (I I' : HI) : Prop := ∀ a i, ¬ (a = 0 ∧ (20 ≤ i ∧ i ≤ 25 ∨ 28 ≤ i ∧ i ≤ 30)) → ¬ (a = 14 ∧ p ≤ i) → a ≠ 15 → ¬ (a = 16 ∧ e ≤ i) → I' a i = I a i
def FrF (p : Nat) (I I' : HI) : Prop := ∀ a i, ¬ (a = 0 ∧ 17 ≤ i ∧ i ≤ 30) → ¬ (a = 14 ∧ p ≤ i) → a ≠ 15 → a ≠ 16 → I' a i = I a i
theorem FrP.rfl {p e : Nat} {I : HI} : FrP p e I I := fun _ _ _ _ _ _ => Eq.refl _
theorem FrP.trans {p e e2 : Nat} {I I1 I2 : HI} (h : FrP p e I I1) (h2 : FrP p e2 I1 I2) (he : e ≤ e2) : FrP p e I I2 := fun a i n1 n2 n3 n4 => (h2 a i n1 n2 n3 (fun x => n4 ⟨x.1, by omega⟩)).trans (h a i n1 n2 n3 n4)
theorem FrP.frF {p e : Nat} {I I1 I2 : HI} (h : FrP p e I I1) (h2 : FrF p I1 I2) : FrF p I I2 := fun a i n1 n2 n3 n4 => (h2 a i n1 n2 n3 n4).trans (h a i (fun x => n1 ⟨x.1, by omega⟩) n2 n3 (fun x => n4 x.1))
theorem FrS.frP {p e : Nat} {I I' : HI} (h : FrS p I I') : FrP p e I I' := fun a i n1 n2 n3 _ => h a i (fun x => n1 ⟨x.1, by omega⟩) n2 n3
theorem FrG.frP {p e : Nat} {I I' : HI} (h : FrG I I') : FrP p e I I' := fun a i n1 _ _ _ => h a i (fun x => n1 ⟨x.1, Or.inl x.2⟩)
theorem MM.fr {I I' : HI} {p : Nat} {E : AC} {S : List Nat} (h : MM I p E S) (f : FrG I I') : MM I' p E S := by
  obtain ⟨a1, a2, a3, a4, a5, a6, a7⟩ := h
  exact ⟨(f 0 28 (by omega)).trans a1, a2.fr (fun k _ => f 14 k (by omega)), (f 0 29 (by omega)).trans a3, a4.fr (fun k _ => f 15 k (by omega)), a5, a6, a7⟩
theorem mGood {I : HI} {Q : Int32 → Prop} (h : I 0 17 = 0) (K : Q 1) : M_isGood I Q := by unfold M_isGood; exact it h K
theorem mBad {I : HI} {Q : Int32 → Prop} (h : I 0 17 ≠ 0) (K : Q 0) : M_isGood I Q := by unfold M_isGood; exact ie h K
theorem mWrong {I : HI} {f s : Nat} {Q : HI → Prop} (h : I 0 17 = 0) (hs : I 0 22 = nI s) (K : ∀ I', (∀ a i, ¬ (a = 0 ∧ (i = 17 ∨ i = 18)) → I' a i = I a i) → I' 0 17 = nI f → I' 0 18 = nI s → Q I') : M_wrong I (nI f) Q := by
  unfold M_wrong
  refine it h (K _ (fun a i n => ?_) ?_ ?_)
  · rw [up2_get, if_neg (by omega), up2_get, if_neg (by omega)]
  · rw [up2_idx _ _ _ (by decide), up2_same]
  · rw [up2_same, up2_idx _ _ _ (by decide), hs]
theorem mSign {t : Nat → Nat} {m s c : Nat} {I : HI} {J : HJ} {Q : Int32 → Prop} (h : TkM t m s I J) (hc : c < 128) (K : Q (nI (if tK t m s = c then 1 else 0))) : M_isSign I (nI c) Q := by
  have hk := tK_ne t m s
  unfold M_isSign
  rw [h.2.2.1]
  by_cases h3 : tK t m s < 128
  · have e3 : skd (tK t m s) = 3 := by unfold skd; rw [if_neg (by omega), if_neg (by omega), if_neg (by omega), if_neg (by omega)]
    rw [e3, h.2.2.2.2.2.1 h3]
    refine it rfl (ic (fun e => ?_) (fun e => ?_))
    · rw [if_pos ((nI_eq (by omega) (by omega)).mp e)] at K; exact K
    · rw [if_neg (fun x => e (by rw [x]))] at K; exact K
  · rw [if_neg (by omega)] at K
    have e3 : skd (tK t m s) ≠ 3 ∧ skd (tK t m s) ≤ 4 := by
      rcases tK_cases t m s with ⟨-, e, -⟩ | ⟨-, -, -, -, e⟩ | ⟨-, -, -, -, e⟩ | ⟨-, -, -, -, h6⟩
      · rw [e]; decide
      · unfold skd; rw [if_neg (by omega), if_pos e]; omega
      · rw [e]; split <;> decide
      · rcases h6 with ⟨-, e, h7, -⟩ | ⟨-, e⟩
        · omega
        · rw [e]; decide
    exact ie (fun e => e3.1 ((nI_eq (by omega) (by decide)).mp (show nI _ = nI 3 from e))) K
theorem Low_split : ∀ S : List Nat, ∃ P R, S = P ++ R ∧ (∀ o ∈ P, o ≠ 12) ∧ Lowr 0 R
  | [] => ⟨[], [], rfl, fun _ h => absurd h List.not_mem_nil, trivial⟩
  | o :: r => by
    by_cases h : o = 12
    · exact ⟨[], o :: r, rfl, fun _ h => absurd h List.not_mem_nil, Or.inl h⟩
    · obtain ⟨P, R, e, h1, h2⟩ := Low_split r
      exact ⟨o :: P, R, by rw [e]; rfl, fun x hx => by rcases List.mem_cons.mp hx with e | e; exact e ▸ h; exact h1 x e, h2⟩
theorem MM.frW {I I' : HI} {p : Nat} {E : AC} {S : List Nat} (h : MM I p E S) (f : ∀ a i, ¬ (a = 0 ∧ i ≠ 28 ∧ i ≠ 29) → a ≠ 16 → I' a i = I a i) : MM I' p E S := by
  obtain ⟨a1, a2, a3, a4, a5, a6, a7⟩ := h
  exact ⟨(f 0 28 (by omega) (by omega)).trans a1, a2.fr (fun k _ => f 14 k (by omega) (by omega)), (f 0 29 (by omega) (by omega)).trans a3, a4.fr (fun k _ => f 15 k (by omega) (by omega)), a5, a6, a7⟩
theorem MR.fr {t : Nat → Nat} {m n s dep : Nat} {I I' : HI} {J : HJ} (h : MR t m n I J s dep) (f : ∀ i, i ≠ 28 → i ≠ 29 → I' 0 i = I 0 i) (f2 : ∀ k, I' 10 k = I 10 k) : MR t m n I' J s dep := by
  obtain ⟨a1, a2, a3, a4, a5, a6, a7⟩ := h
  exact ⟨⟨(f 19 (by omega) (by omega)).trans a1.1, a1.2.1, fun k hk => ⟨(f2 k).trans (a1.2.2 k hk).1, (a1.2.2 k hk).2⟩⟩, a2, a3.fr (fun i h1 h2 => f i (by omega) (by omega)), (f 17 (by omega) (by omega)).trans a4, (f 1 (by omega) (by omega)).trans a5, a6, (f 30 (by omega) (by omega)).trans a7.1, a7.2⟩
theorem MR.frS {t : Nat → Nat} {m n s dep p : Nat} {I I' : HI} {J : HJ} (h : MR t m n I J s dep) (f : FrS p I I') : MR t m n I' J s dep := h.fr (fun i h1 h2 => f 0 i (by omega) (by omega) (by omega)) (fun k => f 10 k (by omega) (by omega) (by omega))
theorem MR.go {t : Nat → Nat} {m n s dep : Nat} {I : HI} {J : HJ} {Q : HI → HJ → Prop} (h : MR t m n I J s dep) (K : ∀ I' J', FrG I I' → MR t m n I' J' (nxt t m s) dep → Q I' J') : M_goes I J Q := by
  obtain ⟨a1, a2, a3, a4, a5, a6, a7⟩ := h
  exact M_goes_k a1 a3.1 (tE_le t a2) (fun I' J' f k => K I' J' f ⟨a1.fr f, nxt_le t a2, k, (f 0 17 (by omega)).trans a4, (f 0 1 (by omega)).trans a5, a6, (f 0 30 (by omega)).trans a7.1, a7.2⟩)
/-- the last of it: what waits goes out, and a 0 -/
theorem mTail {I : HI} {J : HJ} {p : Nat} {E : AC} {S : List Nat} {x1 : Int32} {Q : Int32 → HI → HJ → Prop} (hM : MM I p E S) (K : ∀ I', FrF p I I' → I' 0 17 = I 0 17 → I' 0 18 = I 0 18 → Q x1 I' J) : M_expression_b373 I J x1 Q := by
  unfold M_expression_b373
  obtain ⟨P, R, e, h1, h2⟩ := Low_split S
  subst e
  refine mDrops (x := 0) (by decide) h2 hM (fun o ho => ⟨h1 o ho, Nat.zero_le _⟩) (fun I1 f1 hM1 => ?_)
  obtain ⟨a1, a2, a3, a4, a5, a6, a7⟩ := hM1
  unfold M_puts
  rw [a1, nx_nI (by omega)]
  refine ⟨vin (by omega) (by decide), K _ (fun a i n1 n2 n3 n4 => ?_) ?_ ?_⟩
  · rw [up2_get, if_neg (by omega), up2_get, if_neg (by omega)]
    exact f1 a i (fun x => n1 ⟨x.1, by omega⟩) n2 n3
  · rw [up2_idx _ _ _ (by decide), up2_ne _ _ _ (by decide)]; exact f1 0 17 (by omega) (by omega) (by decide)
  · rw [up2_idx _ _ _ (by decide), up2_ne _ _ _ (by decide)]; exact f1 0 18 (by omega) (by omega) (by decide)
/-- a fault ends the expression -/
theorem mFault {I : HI} {J : HJ} {p k : Nat} {E : AC} {S : List Nat} {x1 x2 : Int32} {Q : Int32 → HI → HJ → Prop} (h : I 0 17 ≠ 0) (hM : MM I p E S) (K : ∀ I', FrF p I I' → I' 0 17 = I 0 17 → I' 0 18 = I 0 18 → Q x1 I' J) : M_expression_l35 x1 Q (k + 1) I J x2 := by
  have hb : M_expression_b353 I J x1 Q := by
    unfold M_expression_b353
    exact mBad h (it rfl (mTail hM K))
  unfold M_expression_l35
  exact ic (fun _ => hb) (fun _ => mBad h (it rfl hb))
