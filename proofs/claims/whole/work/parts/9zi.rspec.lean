/-! rules: what a rule is, and what all of them are -/
abbrev RcT : Type := Option AC × AC
abbrev RuT : Type := Nat × RcT
def spGuess (t : Nat → Nat) (m n s : Nat) (P : Option AC) (w : Nat) : Except (Nat × Nat) (Nat × RuT) :=
  if tK t m s = 143 then
    match spOr t m n 6 (nxt t m s) with
    | .error e => .error e
    | .ok r => if tK t m r.1 = 59 then .ok (nxt t m r.1, w, P, r.2) else .error (1, r.1)
  else .error (1, s)
def spRule (t : Nat → Nat) (m n s : Nat) : Except (Nat × Nat) (Nat × RuT) :=
  match spWear t m n (nxt t m s) with
  | .error e => .error e
  | .ok p => if tK t m p.1 = 142 then
      match spOr t m n 6 (nxt t m p.1) with
      | .error e => .error e
      | .ok q => spGuess t m n q.1 (some q.2) p.2
    else spGuess t m n p.1 none p.2
def spRules (t : Nat → Nat) (m n : Nat) : Nat → Nat → Except (Nat × Nat) (List RuT)
  | 0, s => if tK t m s = 128 then .ok [] else .error (if tK t m s = 141 then 2 else 1, s)
  | d + 1, s => if tK t m s = 128 then .ok [] else if tK t m s = 141 then
      match spRule t m n s with
      | .error e => .error e
      | .ok p => match spRules t m n d p.1 with
        | .error e => .error e
        | .ok l => .ok (p.2 :: l)
    else .error (1, s)
/-- the faults are 1 to 4 -/
def Erf (f : Nat → Rs) : Prop := ∀ s e, f s = .error e → 1 ≤ e.1 ∧ e.1 ≤ 4
theorem erf_wear {t : Nat → Nat} {m n s : Nat} {e : Nat × Nat} (h : spWear t m n s = .error e) : 1 ≤ e.1 ∧ e.1 ≤ 4 := by
  unfold spWear at h
  split at h
  · split at h
    · exact absurd h (by simp)
    · simp only [Except.error.injEq] at h
      subst h
      dsimp only
      decide
  · simp only [Except.error.injEq] at h
    subst h
    dsimp only
    split <;> decide
theorem erf_part {t : Nat → Nat} {m n : Nat} {ro : Nat → Rs} (hr : Erf ro) : Erf (spPart t m n ro) := by
  intro s e h
  unfold spPart at h
  split at h
  · cases hq : ro (nxt t m s) with
    | error e2 =>
      rw [hq] at h
      simp only [Except.error.injEq] at h
      subst h
      exact hr _ _ hq
    | ok p =>
      rw [hq] at h
      simp only at h
      split at h
      · exact absurd h (by simp)
      · simp only [Except.error.injEq] at h
        subst h
        dsimp only
        decide
  · split at h
    · exact absurd h (by simp)
    · split at h
      · simp only [Except.error.injEq] at h
        subst h
        dsimp only
        decide
      · split at h
        · simp only [Except.error.injEq] at h
          subst h
          dsimp only
          split <;> decide
        · split at h
          · cases hq : spWear t m n (nxt t m s) with
            | error e2 =>
              rw [hq] at h
              simp only [Except.error.injEq] at h
              subst h
              exact erf_wear hq
            | ok p => rw [hq] at h; exact absurd h (by simp)
          · exact absurd h (by simp)
theorem erf_loop {t : Nat → Nat} {m : Nat} {sub : Nat → Rs} {op : Nat → Nat} (hs : Erf sub) : ∀ d s E e, spLoop t m sub op d s E = .error e → 1 ≤ e.1 ∧ e.1 ≤ 4 := by
  intro d
  induction d with
  | zero => intro s E e h; simp [spLoop] at h
  | succ d ih =>
    intro s E e h
    simp only [spLoop] at h
    split at h
    · exact absurd h (by simp)
    · cases hq : sub (nxt t m s) with
      | error e2 =>
        rw [hq] at h
        simp only [Except.error.injEq] at h
        subst h
        exact hs _ _ hq
      | ok p => rw [hq] at h; exact ih _ _ _ h
theorem erf_bin {t : Nat → Nat} {m : Nat} {sub : Nat → Rs} {op : Nat → Nat} (hs : Erf sub) : Erf (spBin t m sub op) := by
  intro s e h
  unfold spBin at h
  cases hq : sub s with
  | error e2 =>
    rw [hq] at h
    simp only [Except.error.injEq] at h
    subst h
    exact hs _ _ hq
  | ok p => rw [hq] at h; exact erf_loop hs _ _ _ _ h
theorem erf_test {t : Nat → Nat} {m : Nat} {sub : Nat → Rs} (hs : Erf sub) : Erf (spTest t m sub) := by
  intro s e h
  unfold spTest at h
  cases hq : sub s with
  | error e2 =>
    rw [hq] at h
    simp only [Except.error.injEq] at h
    subst h
    exact hs _ _ hq
  | ok p =>
    rw [hq] at h
    simp only at h
    split at h
    · exact absurd h (by simp)
    · cases hq2 : sub (nxt t m p.1) with
      | error e2 =>
        rw [hq2] at h
        simp only [Except.error.injEq] at h
        subst h
        exact hs _ _ hq2
      | ok p2 => rw [hq2] at h; exact absurd h (by simp)
theorem erf_not {t : Nat → Nat} {m : Nat} {sub : Nat → Rs} (hs : Erf sub) : ∀ b, Erf (spNot t m sub b) := by
  intro b
  induction b with
  | zero =>
    intro s e h
    unfold spNot at h
    split at h
    · simp only [Except.error.injEq] at h
      subst h
      dsimp only
      decide
    · exact hs _ _ h
  | succ b ih =>
    intro s e h
    unfold spNot at h
    split at h
    · cases hq : spNot t m sub b (nxt t m s) with
      | error e2 =>
        rw [hq] at h
        simp only [Except.error.injEq] at h
        subst h
        exact ih _ _ hq
      | ok p => rw [hq] at h; exact absurd h (by simp)
    · exact hs _ _ h
theorem erf_or {t : Nat → Nat} {m n : Nat} : ∀ d, Erf (spOr t m n d)
  | 0 => fun s e h => by
    unfold spOr at h
    simp only [Except.error.injEq] at h
    subst h
    dsimp only
    split <;> decide
  | d + 1 => fun s e h => by
    unfold spOr at h
    exact erf_bin (erf_bin (erf_not (erf_test (erf_bin (erf_bin (erf_part (erf_or d))))) 6)) s e h
theorem erf_guess {t : Nat → Nat} {m n s : Nat} {P : Option AC} {w : Nat} {e : Nat × Nat} (h : spGuess t m n s P w = .error e) : 1 ≤ e.1 ∧ e.1 ≤ 4 := by
  unfold spGuess at h
  split at h
  · cases hq : spOr t m n 6 (nxt t m s) with
    | error e2 =>
      rw [hq] at h
      simp only [Except.error.injEq] at h
      subst h
      exact erf_or 6 _ _ hq
    | ok r =>
      rw [hq] at h
      simp only at h
      split at h
      · exact absurd h (by simp)
      · simp only [Except.error.injEq] at h
        subst h
        dsimp only
        decide
  · simp only [Except.error.injEq] at h
    subst h
    dsimp only
    decide
theorem erf_rule {t : Nat → Nat} {m n s : Nat} {e : Nat × Nat} (h : spRule t m n s = .error e) : 1 ≤ e.1 ∧ e.1 ≤ 4 := by
  unfold spRule at h
  cases hq : spWear t m n (nxt t m s) with
  | error e2 =>
    rw [hq] at h
    simp only [Except.error.injEq] at h
    subst h
    exact erf_wear hq
  | ok p =>
    rw [hq] at h
    simp only at h
    split at h
    · cases hq2 : spOr t m n 6 (nxt t m p.1) with
      | error e2 =>
        rw [hq2] at h
        simp only [Except.error.injEq] at h
        subst h
        exact erf_or 6 _ _ hq2
      | ok q => rw [hq2] at h; exact erf_guess h
    · exact erf_guess h
theorem spGuess_ok {t : Nat → Nat} {m n s : Nat} {P : Option AC} {w : Nat} {r : Nat × RuT} (h1n : 1 ≤ n) (hs : s ≤ m) (h : spGuess t m n s P w = .ok r) : r.2.1 = w ∧ r.2.2.1 = P ∧ s + 2 + r.2.2.2.length ≤ r.1 ∧ r.1 ≤ m ∧ EW n r.2.2.2 := by
  unfold spGuess at h
  split at h
  · rename_i hk
    have hn := nxt_gt t (kd_lt (show tK t m s ≠ 128 by omega))
    have hn2 := nxt_le t hs
    cases hq : spOr t m n 6 (nxt t m s) with
    | error e => rw [hq] at h; exact absurd h (by simp)
    | ok p =>
      rw [hq] at h
      obtain ⟨a1, a2, a3, a4⟩ := SP_or h1n 6 _ hn2 p hq
      simp only at h
      split at h
      · rename_i hk2
        have hn3 := nxt_gt t (kd_lt (show tK t m p.1 ≠ 128 by omega))
        have hn4 := nxt_le t a2
        simp only [Except.ok.injEq] at h
        subst h
        dsimp only
        exact ⟨rfl, rfl, by omega, hn4, a4⟩
      · exact absurd h (by simp)
  · exact absurd h (by simp)
theorem EW.ok {n : Nat} {E : AC} (h : EW n E) : cok n E 0 := by
  have := h 0 [] rfl
  rw [List.append_nil] at this
  exact this
theorem spRule_ok {t : Nat → Nat} {m n s : Nat} {r : Nat × RuT} (h1n : 1 ≤ n) (hm : m ≤ 500) (hs : s < m) (h : spRule t m n s = .ok r) : r.2.1 < n ∧ s + 4 + ((r.2.2.1.getD []).length + r.2.2.2.length) ≤ r.1 ∧ r.1 ≤ m ∧ cdok n r.2.2 := by
  have hn := nxt_gt t hs
  have hn2 := nxt_le t (Nat.le_of_lt hs)
  unfold spRule at h
  cases hq : spWear t m n (nxt t m s) with
  | error e => rw [hq] at h; exact absurd h (by simp)
  | ok p =>
    rw [hq] at h
    have hp : p.2 < n ∧ nxt t m s + 1 ≤ p.1 ∧ p.1 ≤ m := by
      unfold spWear at hq
      split at hq
      · rename_i hk
        have h3 := nxt_gt t (kd_lt (show tK t m (nxt t m s) ≠ 128 by omega))
        have h4 := nxt_le t hn2
        split at hq
        · rename_i hv
          simp only [Except.ok.injEq] at hq
          subst hq
          exact ⟨hv, h3, h4⟩
        · exact absurd hq (by simp)
      · exact absurd hq (by simp)
    simp only at h
    split at h
    · rename_i hk
      have h3 := nxt_gt t (kd_lt (show tK t m p.1 ≠ 128 by omega))
      have h4 := nxt_le t hp.2.2
      cases hq2 : spOr t m n 6 (nxt t m p.1) with
      | error e => rw [hq2] at h; exact absurd h (by simp)
      | ok q =>
        rw [hq2] at h
        obtain ⟨a1, a2, a3, a4⟩ := SP_or h1n 6 _ h4 q hq2
        obtain ⟨b1, b2, b3, b4, b5⟩ := spGuess_ok h1n a2 h
        rw [b1]
        refine ⟨hp.1, ?_, b4, b5.ok, ?_, fun p hp => ?_⟩
        · rw [b2]; simp only [Option.getD_some]; omega
        · rw [b2]; simp only [Option.getD_some]; omega
        · rw [b2] at hp
          simp only [Option.some.injEq] at hp
          rw [← hp]
          exact a4.ok
    · obtain ⟨b1, b2, b3, b4, b5⟩ := spGuess_ok h1n hp.2.2 h
      rw [b1]
      refine ⟨hp.1, ?_, b4, b5.ok, ?_, fun p hp => ?_⟩
      · rw [b2]; simp only [Option.getD_none, List.length_nil]; omega
      · rw [b2]; simp only [Option.getD_none, List.length_nil]; omega
      · rw [b2] at hp
        exact absurd hp (by simp)
theorem erf_rules {t : Nat → Nat} {m n : Nat} : ∀ d s e, spRules t m n d s = .error e → 1 ≤ e.1 ∧ e.1 ≤ 4 := by
  intro d
  induction d with
  | zero =>
    intro s e h
    unfold spRules at h
    split at h
    · exact absurd h (by simp)
    · simp only [Except.error.injEq] at h
      subst h
      dsimp only
      split <;> decide
  | succ d ih =>
    intro s e h
    unfold spRules at h
    split at h
    · exact absurd h (by simp)
    · split at h
      · cases hq : spRule t m n s with
        | error e2 =>
          rw [hq] at h
          simp only [Except.error.injEq] at h
          subst h
          exact erf_rule hq
        | ok p =>
          rw [hq] at h
          simp only at h
          cases hq2 : spRules t m n d p.1 with
          | error e2 =>
            rw [hq2] at h
            simp only [Except.error.injEq] at h
            subst h
            exact ih _ _ hq2
          | ok l => rw [hq2] at h; exact absurd h (by simp)
      · simp only [Except.error.injEq] at h
        subst h
        dsimp only
        decide
