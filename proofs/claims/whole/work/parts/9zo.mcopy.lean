/-! rules: the net behind them -/
def aFol (a : AN) (g : Nat → Option RcT) : AN := (an a, aq a, alk a, ard a, fun w => if (g w).isSome then 1 else akd a w, atb a, fun w => (g w).getD (acd a w))
theorem aFol_none (a : AN) : aFol a (fun _ => none) = a := rfl
theorem mcl_le : ∀ E : AC, mcl E ≤ 2 * E.length + 1
  | [] => Nat.le_refl _
  | (o, x) :: r => by
    have := mcl_le r
    simp only [mcl, List.length_cons]
    split <;> omega
theorem mcd.fr {I I' : HI} {w k : Nat} {c : RcT} (h : mcd I k c) (hk : k ≠ w) (f : ∀ b i, ¬ ((b = 4 ∨ b = 7 ∨ b = 8) ∧ i = w) → ¬ (b = 6 ∧ 1000 * w ≤ i ∧ i < 1000 * w + 1000) → I' b i = I b i) : mcd I' k c := by
  obtain ⟨t, t1, t2, t3, t4⟩ := h
  refine ⟨t, (f 8 k (by omega) (by omega)).trans t1, mco_in _ _ (fun j h1 h2 => f 6 j (by omega) (by omega)) t2, t3, ?_⟩
  cases hc : c.1 with
  | none => rw [hc] at t4; exact (f 7 k (by omega) (by omega)).trans t4
  | some p =>
    rw [hc] at t4
    obtain ⟨g1, g2, g3⟩ := t4
    exact ⟨(f 7 k (by omega) (by omega)).trans g1, mco_in _ _ (fun j h1 h2 => f 6 j (by omega) (by omega)) g2, g3⟩
theorem RepM_fol {I I' : HI} {a : AN} {g : Nat → Option RcT} {w : Nat} {c : RcT} (R : RepM I (aFol a g)) (f : ∀ b i, ¬ ((b = 4 ∨ b = 7 ∨ b = 8) ∧ i = w) → ¬ (b = 6 ∧ 1000 * w ≤ i ∧ i < 1000 * w + 1000) → I' b i = I b i) (h4 : I' 4 w = 1) (hm : mcd I' w c) : RepM I' (aFol a (upn g w (some c))) := by
  obtain ⟨N, e3, e4⟩ := R
  refine ⟨⟨(f 0 1 (by omega) (by omega)).trans N.1, (f 0 2 (by omega) (by omega)).trans N.2.1, fun k hk => (f 2 k (by omega) (by omega)).trans (N.2.2.1 k hk), fun k hk => (f 3 k (by omega) (by omega)).trans (N.2.2.2.1 k hk), N.2.2.2.2⟩, (f 0 3 (by omega) (by omega)).trans e3, fun k hk => ?_⟩
  show I' 4 k = nI (if (upn g w (some c) k).isSome then 1 else akd a k) ∧ ((if (upn g w (some c) k).isSome then 1 else akd a k) = 0 → _) ∧ ((if (upn g w (some c) k).isSome then 1 else akd a k) = 1 → mcd I' k ((upn g w (some c) k).getD (acd a k)))
  obtain ⟨g1, g2, g3⟩ := e4 k hk
  by_cases e : k = w
  · subst e
    rw [upn_same]
    exact ⟨h4, fun q => by simp at q, fun _ => hm⟩
  · rw [upn_ne _ _ e]
    exact ⟨(f 4 k (by omega) (by omega)).trans g1, fun h0 v hv => (f 5 _ (by omega) (by omega)).trans (g2 h0 v hv), fun h1 => (g3 h1).fr e f⟩
/-- what holds of each rule that was read -/
def RuOK (n : Nat) (r : RuT) : Prop := r.1 < n ∧ cdok n r.2 ∧ (r.2.1.getD []).length + r.2.2.length ≤ 496
theorem spRules_ok {t : Nat → Nat} {m n : Nat} (h1n : 1 ≤ n) (hm : m ≤ 500) : ∀ d s l, s ≤ m → spRules t m n d s = .ok l → ∀ r ∈ l, RuOK n r := by
  intro d
  induction d with
  | zero =>
    intro s l hs h
    unfold spRules at h
    split at h
    · simp only [Except.ok.injEq] at h
      subst h
      exact fun r hr => absurd hr List.not_mem_nil
    · exact absurd h (by simp)
  | succ d ih =>
    intro s l hs h
    unfold spRules at h
    split at h
    · simp only [Except.ok.injEq] at h
      subst h
      exact fun r hr => absurd hr List.not_mem_nil
    · rename_i hk
      split at h
      · cases hq : spRule t m n s with
        | error e => rw [hq] at h; exact absurd h (by simp)
        | ok p =>
          rw [hq] at h
          simp only at h
          obtain ⟨b1, b2, b3, b4⟩ := spRule_ok h1n hm (kd_lt hk) hq
          cases hq2 : spRules t m n d p.1 with
          | error e => rw [hq2] at h; exact absurd h (by simp)
          | ok l2 =>
            rw [hq2] at h
            simp only [Except.ok.injEq] at h
            subst h
            intro r hr
            rcases List.mem_cons.mp hr with e | e
            · subst e
              exact ⟨b1, b4, by omega⟩
            · exact ih _ _ b3 hq2 r e
      · exact absurd h (by simp)
def Fr6 (I I' : HI) : Prop := ∀ b i, ¬ (b = 4 ∨ b = 6 ∨ b = 7 ∨ b = 8) → I' b i = I b i
theorem m_l106 {a : AN} {J : HJ} {Q : Int32 → HI → HJ → Prop} {I0 : HI} (n8 : an a ≤ 8) {p N : Nat} (hp : p ≤ 1000) (hN : N ≤ 16) : ∀ (l : List RuT) (i : Nat) (I : HI) (g : Nat → Option RcT), i + l.length = N → I 0 27 = nI N → RLs I p i l → (∀ r ∈ l, RuOK (an a) r) → RepM I (aFol a g) → Fr6 I0 I → (∀ I', Fr6 I0 I' → RepM I' (aFol a (mdf g l)) → Q 0 (up2 I' 0 40 0) J) → M_rules_l106 J Q (l.length + 1) I (nI i) := by
  intro l
  induction l with
  | nil =>
    intro i I g hi h27 hL hr R hf K
    simp only [List.length_nil] at hi
    unfold M_rules_l106
    rw [h27]
    exact it (nI_le (by omega) (by omega)) (K I hf R)
  | cons r l ih =>
    intro i I g hi h27 hL hr R hf K
    simp only [List.length_cons] at hi
    obtain ⟨⟨h11, h12, q, h13, hq, hmq⟩, hL⟩ := hL
    obtain ⟨hw, hcd, hlen⟩ := hr r List.mem_cons_self
    have hG := mcl_le r.2.2
    generalize hww : r.1 = w at h11 hw
    have b169 : ∀ (I1 : HI) (to : Nat), (∀ b i, ¬ ((b = 4 ∨ b = 7 ∨ b = 8) ∧ i = w) → ¬ (b = 6 ∧ 1000 * w ≤ i ∧ i < 1000 * w + 1000) → I1 b i = I b i) → I1 4 w = 1 → to + mcl r.2.2 ≤ 1000 → (match r.2.1 with
        | none => I1 7 w = -1
        | some P => I1 7 w = 0 ∧ mco (I1 6) P (1000 * w) ∧ mcl P ≤ to) → M_rules_b169 I1 J (nI i) (nI w) (nI to) (fun I' x2' => M_rules_l106 J Q (l.length + 1) I' x2') Q := by
      intro I1 to f1 e4 hto hpass
      unfold M_rules_b169
      rw [nx_nI (show w < 2 ^ 31 by omega), nx_nI (show i < 2 ^ 31 by omega), up2_ne _ _ _ (show (13 : Nat) ≠ 8 by decide), f1 13 i (by omega) (by omega), h13, nI_1]
      refine ⟨vin (by omega) (by decide), vin (by omega) (by decide), _, copies_k (w := w) (by omega) r.2.2 q to _ ?_ (by omega) hto (cok_COK _ _ hcd.1) (fun I3 f3 hm3 => ?_)⟩
      · exact mco_eq (fun k => by rw [up2_ne _ _ _ (by decide), f1 14 k (by omega) (by omega)]) _ _ hmq
      · have f03 : ∀ b i, ¬ ((b = 4 ∨ b = 7 ∨ b = 8) ∧ i = w) → ¬ (b = 6 ∧ 1000 * w ≤ i ∧ i < 1000 * w + 1000) → I3 b i = I b i := fun b j n1 n2 => by
          rw [f3 b j (by omega), up2_get, if_neg (by omega)]
          exact f1 b j n1 n2
        refine ih (i + 1) I3 (upn g w (some r.2)) (by omega) ((f03 0 27 (by omega) (by omega)).trans h27) (hL.fr (fun a j h1 h2 h3 h4 => f03 a j (by omega) (by omega)) (fun j _ => f03 14 j (by omega) (by omega)) (Nat.le_refl _)) (fun x hx => hr x (List.mem_cons_of_mem _ hx)) (RepM_fol R f03 ?_ ⟨to, ?_, hm3, hto, ?_⟩) (fun b j n1 => (f03 b j (by omega) (by omega)).trans (hf b j n1)) (fun I' g1 g2 => K I' g1 ?_)
        · rw [f3 4 w (by omega), up2_ne _ _ _ (by decide)]; exact e4
        · rw [f3 8 w (by omega), up2_same]
        · cases hc : r.2.1 with
          | none =>
            rw [hc] at hpass
            show I3 7 w = -1
            rw [f3 7 w (by omega), up2_ne _ _ _ (by decide)]
            exact hpass
          | some P =>
            rw [hc] at hpass
            obtain ⟨x1, x2, x3⟩ := hpass
            refine ⟨?_, mco_in _ _ (fun j h1 h2 => ?_) x2, by omega⟩
            · rw [f3 7 w (by omega), up2_ne _ _ _ (by decide)]; exact x1
            · rw [f3 6 j (by omega), up2_ne _ _ _ (by decide)]
        · rw [← hww] at g2
          exact g2
    show M_rules_l106 J Q (l.length + 1 + 1) I (nI i)
    unfold M_rules_l106
    rw [h27, nx_nI (show i < 2 ^ 31 by omega), h11, nx_nI (show w < 2 ^ 31 by omega), up2_ne _ _ _ (show (12 : Nat) ≠ 7 by decide), up2_ne _ _ _ (show (12 : Nat) ≠ 4 by decide), up2_ne _ _ _ (show (12 : Nat) ≠ 7 by decide), up2_ne _ _ _ (show (12 : Nat) ≠ 7 by decide), up2_ne _ _ _ (show (12 : Nat) ≠ 4 by decide)]
    have vi : vp_in (nI i) 16 := vin (by omega) (by decide)
    have vw : vp_in (nI w) 8 := vin (by omega) (by decide)
    refine ie (nI_ge (by omega) (by omega)) ⟨vi, vw, vw, vi, ?_⟩
    cases hc : r.2.1 with
    | none =>
      rw [hc] at h12
      refine it h12 (b169 _ 0 (fun b j n1 n2 => ?_) ?_ (by omega) ?_)
      · rw [up2_get, if_neg (by omega), up2_get, if_neg (by omega)]
      · rw [up2_ne _ _ _ (by decide), up2_same]
      · rw [hc]
        exact up2_same _ _ _ _
    | some P =>
      rw [hc] at h12 hlen
      obtain ⟨q2, y1, y2, y3⟩ := h12
      have hP := mcl_le P
      have hlen : P.length + r.2.2.length ≤ 496 := hlen
      refine ie (fun e => ?_) ⟨vw, vi, P.length + 1, ?_⟩
      · rw [y1] at e
        exact nI_nm1 (by omega) e
      · rw [y1]
        refine copies_k (w := w) (by omega) P q2 0 _ ?_ (by omega) (by omega) (cok_COK _ _ (hcd.2.2 P hc)) (fun I3 f3 hm3 => ?_)
        · exact mco_eq (fun k => by rw [up2_ne _ _ _ (by decide), up2_ne _ _ _ (by decide), up2_ne _ _ _ (by decide)]) _ _ y3
        · refine b169 I3 (0 + mcl P) (fun b j n1 n2 => ?_) ?_ (by omega) ?_
          · rw [f3 b j (by omega), up2_get, if_neg (by omega), up2_get, if_neg (by omega), up2_get, if_neg (by omega)]
          · rw [f3 4 w (by omega), up2_ne _ _ _ (by decide), up2_ne _ _ _ (by decide), up2_same]
          · rw [hc]
            refine ⟨?_, hm3, by omega⟩
            rw [f3 7 w (by omega), up2_same]
