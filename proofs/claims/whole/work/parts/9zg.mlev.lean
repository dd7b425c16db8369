/-! rules: the reference's levels -/
def LOO (t : Nat → Nat) (m n p l dep : Nat) (x1 : Int32) (Q : Int32 → HI → HJ → Prop) (I0 : HI) (E : AC) (S : List Nat) (r : Rs) : Prop := match r with
  | .error e => ∀ I' J', FrF p I0 I' → I' 0 17 = nI e.1 → I' 0 18 = nI e.2 → Q x1 I' J'
  | .ok r => ∀ nF I' J' P Eo, m + 2 ≤ r.1 + nF → MS t m n I' J' r.1 p (E ++ Eo) (P ++ S) dep → Eo ++ its P = r.2 → (∀ o ∈ P, o ≠ 12 ∧ l ≤ stg o) → FrP p (if 5 ≤ l then dep + 1 else dep) I0 I' → (l ≤ 4 → opT (tK t m r.1) = 0 ∨ I' 16 dep = 1) → M_expression_l35 x1 Q nF I' J' 1
def LV (t : Nat → Nat) (m n p : Nat) (A : (HI → HJ → Prop) → Nat → HI → HJ → Prop) (l : Nat) (f : Nat → Rs) (dep : Nat) : Prop :=
  ∀ x1 Q nF n4 I J s E S Qo, MS t m n I J s p E S dep → Lowr l S → (l ≤ 4 → I 16 dep = 0) → m + 2 ≤ s + nF → 7 ≤ n4 + dep → (∀ I' J', M_expression_l35 x1 Q nF I' J' 1 → Qo I' J') → LOO t m n p l dep x1 Q I E S (f s) → A Qo n4 I J
def L74 (Qo : HI → HJ → Prop) (n4 : Nat) (I : HI) (J : HJ) : Prop := ∀ x2, M_operand_b74 I J x2 (fun I' J' x2' x3' => M_operand_l4 Qo n4 I' J' x2' x3') Qo
def Lx4 (Qo : HI → HJ → Prop) (n4 : Nat) (I : HI) (J : HJ) : Prop := M_operand_l4 Qo (n4 + 1) I J 1 1
def ENT (A : (HI → HJ → Prop) → Nat → HI → HJ → Prop) (b : Int32) : Prop := ∀ Qo n4 I J, I 0 17 = 0 → A Qo n4 I J → M_operand I J b Qo
theorem ent0 : ENT L74 0 := fun Qo n4 I J h17 h => ⟨n4 + 1, by
  unfold M_operand_l4
  refine ie (by decide) (mGood h17 (ie (by decide) ⟨1, ?_⟩))
  unfold M_operand_l18
  exact mGood h17 (ie (by decide) (it rfl (h 0)))⟩
theorem ent1 : ENT Lx4 1 := fun Qo n4 I J _ h => ⟨n4 + 1, h⟩
def STP (t : Nat → Nat) (m n p dep l : Nat) (op : Nat → Nat) (b : Int32) : Prop := ∀ x1 Q k I J s E P S, MS t m n I J s p E (P ++ S) dep → op (tK t m s) ≠ 0 → (∀ o ∈ P, o ≠ 12 ∧ l ≤ stg o) → Lowr l S → (∀ I' J', MS t m n I' J' (nxt t m s) p (E ++ its P) (op (tK t m s) :: S) dep → FrP p (if 5 ≤ l then dep + 1 else dep) I I' → (l ≤ 4 → I' 16 dep = 0) → M_operand I' J' b (fun I J => M_expression_l35 x1 Q k I J 1)) → M_expression_l35 x1 Q (k + 1) I J 1
theorem stp6 (t : Nat → Nat) (m n p dep : Nat) : STP t m n p dep 6 opP 0 := fun x1 Q k I J s E P S h1 h2 h3 h4 K => stepP h1 h2 h3 h4 (fun I' J' a b => K I' J' a b (by omega))
theorem stp5 (t : Nat → Nat) (m n p dep : Nat) : STP t m n p dep 5 opS 0 := fun x1 Q k I J s E P S h1 h2 h3 h4 K => stepS h1 h2 h3 h4 (fun I' J' a b => K I' J' a b (by omega))
theorem stp2 (t : Nat → Nat) (m n p dep : Nat) : STP t m n p dep 2 opA 1 := fun x1 Q k I J s E P S h1 h2 h3 h4 K => stepA h1 h2 h3 h4 (fun I' J' a b c => K I' J' a b (fun _ => c))
theorem stp1 (t : Nat → Nat) (m n p dep : Nat) : STP t m n p dep 1 opO 1 := fun x1 Q k I J s E P S h1 h2 h3 h4 K => stepO h1 h2 h3 h4 (fun I' J' a b c => K I' J' a b (fun _ => c))
theorem Lowr.mono {a b : Nat} (h : a ≤ b) : ∀ {S : List Nat}, Lowr a S → Lowr b S
  | [], _ => trivial
  | o :: r, h1 => h1.elim Or.inl (fun h2 => Or.inr (Nat.lt_of_lt_of_le h2 h))
theorem its_app (A B : List Nat) : its (A ++ B) = its A ++ its B := List.map_append
theorem LV_loop {t : Nat → Nat} {m n p l dep : Nat} {A : (HI → HJ → Prop) → Nat → HI → HJ → Prop} {sub : Nat → Rs} {op : Nat → Nat} {b : Int32} (hsub : LV t m n p A (l + 1) sub dep) (hst : STP t m n p dep l op b) (hent : ENT A b) (ho : ∀ k, op k = 0 ∨ (4 ≤ op k ∧ op k ≤ 11 ∧ k ≠ 128)) (hg : ∀ k, op k ≠ 0 → stg (op k) = l) (hl : l ≠ 4) {x1 : Int32} {Q : Int32 → HI → HJ → Prop} {I0 : HI} {E : AC} {S : List Nat} (hL : Lowr l S) (hl3 : l ≠ 4 → l ≤ 3 ∨ 5 ≤ l) : ∀ d s E' nF I J Eo P, m + 2 ≤ s + nF → MS t m n I J s p (E ++ Eo) (P ++ S) dep → Eo ++ its P = E' → (∀ o ∈ P, o ≠ 12 ∧ l ≤ stg o) → FrP p (if 5 ≤ l then dep + 1 else dep) I0 I → (l ≤ 4 → opT (tK t m s) = 0 ∨ I 16 dep = 1) → LOO t m n p l dep x1 Q I0 E S (spLoop t m sub op d s E') → M_expression_l35 x1 Q nF I J 1 := by
  intro d
  induction d with
  | zero =>
    intro s E' nF I J Eo P hF hS he hP hf ht K
    unfold spLoop at K
    exact K nF I J P Eo hF hS he hP hf ht
  | succ d ih =>
    intro s E' nF I J Eo P hF hS he hP hf ht K
    unfold spLoop at K
    by_cases h0 : op (tK t m s) = 0
    · rw [if_pos h0] at K
      exact K nF I J P Eo hF hS he hP hf ht
    · rw [if_neg h0] at K
      have hsm := hS.1.2.1
      have hk := ho (tK t m s)
      have hn := nxt_gt t (kd_lt (show tK t m s ≠ 128 by omega))
      obtain ⟨k, rfl⟩ : ∃ k, nF = k + 1 := ⟨nF - 1, by omega⟩
      have h45 : (if 5 ≤ l + 1 then dep + 1 else dep) = (if 5 ≤ l then dep + 1 else dep) := by
        rcases hl3 hl with h | h
        · rw [if_neg (by omega), if_neg (by omega)]
        · rw [if_pos (by omega), if_pos (by omega)]
      refine hst x1 Q k I J s _ P S hS h0 hP hL (fun I1 J1 hS1 f1 t1 => hent _ 7 I1 J1 hS1.1.2.2.2.1 (hsub x1 Q k 7 I1 J1 _ _ _ _ hS1 (Or.inr (by rw [hg _ h0]; omega)) (fun h => t1 (by omega)) (by omega) (by omega) (fun _ _ h => h) ?_))
      cases hq : sub (nxt t m s) with
      | error e =>
        rw [hq] at K
        intro I' J' f e1 e2
        exact K I' J' (hf.fF.trans (f1.fF.trans f)) e1 e2
      | ok r =>
        rw [hq] at K
        intro nF2 I2 J2 P2 Eo2 hF2 hS2 he2 hP2 hf2 ht2
        rw [h45] at hf2
        refine ih r.1 _ nF2 I2 J2 (Eo ++ its P ++ Eo2) (P2 ++ [op (tK t m s)]) hF2 ?_ ?_ ?_ (hf.trans (f1.trans hf2 (Nat.le_refl _)) (Nat.le_refl _)) (fun h => ht2 (by have := hl3 hl; omega)) K
        · rw [List.append_assoc P2, List.singleton_append]
          rw [List.append_assoc E, List.append_assoc E] at hS2
          exact hS2
        · rw [its_app, ← he, ← he2]
          simp only [List.append_assoc]
          rfl
        · intro o ho2
          rcases List.mem_append.mp ho2 with h | h
          · have := hP2 o h
            exact ⟨this.1, by omega⟩
          · have : o = op (tK t m s) := by simpa using h
            rw [this, hg _ h0]
            exact ⟨by omega, Nat.le_refl _⟩
theorem LV_bin {t : Nat → Nat} {m n p l dep : Nat} {A : (HI → HJ → Prop) → Nat → HI → HJ → Prop} {sub : Nat → Rs} {op : Nat → Nat} {b : Int32} (hsub : LV t m n p A (l + 1) sub dep) (hst : STP t m n p dep l op b) (hent : ENT A b) (ho : ∀ k, op k = 0 ∨ (4 ≤ op k ∧ op k ≤ 11 ∧ k ≠ 128)) (hg : ∀ k, op k ≠ 0 → stg (op k) = l) (hl : l ≤ 2 ∨ 5 ≤ l) : LV t m n p A l (spBin t m sub op) dep := by
  intro x1 Q nF n4 I J s E S Qo hS hL hz hF h4 hQ K
  refine hsub x1 Q nF n4 I J s E S Qo hS (hL.mono (by omega)) (fun h => hz (by omega)) hF h4 hQ ?_
  unfold spBin at K
  have h45 : (if 5 ≤ l + 1 then dep + 1 else dep) = (if 5 ≤ l then dep + 1 else dep) := by
    rcases hl with h | h
    · rw [if_neg (by omega), if_neg (by omega)]
    · rw [if_pos (by omega), if_pos (by omega)]
  cases hq : sub s with
  | error e =>
    rw [hq] at K
    exact K
  | ok r =>
    rw [hq] at K
    intro nF2 I2 J2 P2 Eo2 hF2 hS2 he2 hP2 hf2 ht2
    rw [h45] at hf2
    exact LV_loop hsub hst hent ho hg (by omega) hL (fun _ => by omega) _ r.1 r.2 nF2 I2 J2 Eo2 P2 hF2 hS2 he2 (fun o h => ⟨(hP2 o h).1, by have := (hP2 o h).2; omega⟩) hf2 (fun h => ht2 (by omega)) K
theorem LV_test {t : Nat → Nat} {m n p dep : Nat} {sub : Nat → Rs} (hsub : LV t m n p L74 5 sub dep) : LV t m n p L74 4 (spTest t m sub) dep := by
  intro x1 Q nF n4 I J s E S Qo hS hL hz hF h4 hQ K
  refine hsub x1 Q nF n4 I J s E S Qo hS (hL.mono (by omega)) (fun h => by omega) hF h4 hQ ?_
  unfold spTest at K
  cases hq : sub s with
  | error e =>
    rw [hq] at K
    exact K
  | ok r =>
    rw [hq] at K
    intro nF2 I2 J2 P2 Eo2 hF2 hS2 he2 hP2 hf2 _
    have hf2' : FrP p (dep + 1) I I2 := hf2
    have hf3 : FrP p dep I I2 := fun a i n1 n2 n3 n4 => hf2' a i n1 n2 n3 (fun x => n4 ⟨x.1, by omega⟩)
    have hP3 : ∀ o ∈ P2, o ≠ 12 ∧ 4 ≤ stg o := fun o h => ⟨(hP2 o h).1, by have := (hP2 o h).2; omega⟩
    simp only at K
    by_cases h0 : opT (tK t m r.1) = 0
    · rw [if_pos h0] at K
      exact K nF2 I2 J2 P2 Eo2 hF2 hS2 he2 hP3 hf3 (fun _ => Or.inl h0)
    · rw [if_neg h0] at K
      have hsm := hS2.1.2.1
      have hk := opT_ok (tK t m r.1)
      have hn := nxt_gt t (kd_lt (show tK t m r.1 ≠ 128 by omega))
      obtain ⟨k, rfl⟩ : ∃ k, nF2 = k + 1 := ⟨nF2 - 1, by omega⟩
      have hgT : stg (opT (tK t m r.1)) = 4 := by
        unfold opT at h0 ⊢
        split
        · rfl
        · split
          · rfl
          · rename_i a b; rw [if_neg a, if_neg b] at h0; omega
      refine stepT hS2 h0 ((hf2' 16 dep (by omega) (by omega) (by omega) (by omega)).trans (hz (by omega))) hP3 hL (fun I3 J3 hS3 f3 t3 => ent0 _ 7 I3 J3 hS3.1.2.2.2.1 (hsub x1 Q k 7 I3 J3 _ _ _ _ hS3 (Or.inr (by rw [hgT]; omega)) (fun h => by omega) (by omega) (by omega) (fun _ _ h => h) ?_))
      cases hq2 : sub (nxt t m r.1) with
      | error e =>
        rw [hq2] at K
        intro I' J' f e1 e2
        exact K I' J' (hf3.fF.trans (f3.fF.trans f)) e1 e2
      | ok r2 =>
        rw [hq2] at K
        intro nF4 I4 J4 P4 Eo4 hF4 hS4 he4 hP4 hf4 _
        have hf4' : FrP p (dep + 1) I3 I4 := hf4
        refine K nF4 I4 J4 (P4 ++ [opT (tK t m r.1)]) (Eo2 ++ its P2 ++ Eo4) hF4 ?_ ?_ ?_ (hf3.trans (f3.trans (e2 := dep + 1) hf4' (by omega)) (Nat.le_refl _)) (fun _ => Or.inr ((hf4' 16 dep (by omega) (by omega) (by omega) (by omega)).trans t3))
        · rw [List.append_assoc P4, List.singleton_append]
          rw [List.append_assoc E, List.append_assoc E] at hS4
          exact hS4
        · rw [its_app, ← he2, ← he4]
          simp only [List.append_assoc]
          rfl
        · intro o ho2
          rcases List.mem_append.mp ho2 with h | h
          · have := hP4 o h
            exact ⟨this.1, by omega⟩
          · have : o = opT (tK t m r.1) := by simpa using h
            rw [this, hgT]
            exact ⟨by omega, Nat.le_refl _⟩
