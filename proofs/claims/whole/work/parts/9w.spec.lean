/-! rules: what an expression is, as functions of the place of its first token -/
def nxt (t : Nat → Nat) (m s : Nat) : Nat := tS t m (tE t m s)
theorem nxt_le (t : Nat → Nat) {m s : Nat} (h : s ≤ m) : nxt t m s ≤ m := tS_le t (tE_le t h)
theorem nxt_gt (t : Nat → Nat) {m s : Nat} (h : s < m) : s < nxt t m s := Nat.lt_of_lt_of_le (tE_gt t h) (tS_ge t m _)
theorem kd_lt {t : Nat → Nat} {m s : Nat} (h : tK t m s ≠ 128) : s < m := by
  rcases Nat.lt_or_ge s m with h1 | h1
  · exact h1
  · exact absurd (by unfold tK; rw [if_pos h1]) h
abbrev Rs : Type := Except (Nat × Nat) (Nat × AC)
def spWear (t : Nat → Nat) (m n s : Nat) : Except (Nat × Nat) (Nat × Nat) :=
  if tK t m s = 131 then (if tV t m s < n then .ok (nxt t m s, tV t m s) else .error (4, s)) else .error (if tK t m s = 132 then 2 else 1, s)
def spPart (t : Nat → Nat) (m n : Nat) (ro : Nat → Rs) (s : Nat) : Rs :=
  if tK t m s = 40 then
    match ro (nxt t m s) with
    | .error e => .error e
    | .ok p => if tK t m p.1 = 41 then .ok (nxt t m p.1, p.2) else .error (1, p.1)
  else if tK t m s = 131 then .ok (nxt t m s, [(1, tV t m s)])
  else if tK t m s = 132 then .error (2, s)
  else if tK t m s < 144 ∨ 150 < tK t m s then .error (if 140 ≤ tK t m s then 3 else 1, s)
  else if tK t m s = 147 ∨ tK t m s = 148 then
    match spWear t m n (nxt t m s) with
    | .error e => .error e
    | .ok p => .ok (p.1, [(2, 16 * p.2 + (tK t m s - 138))])
  else .ok (nxt t m s, [(2, tK t m s - 138)])
def spLoop (t : Nat → Nat) (m : Nat) (sub : Nat → Rs) (op : Nat → Nat) : Nat → Nat → AC → Rs
  | 0, s, E => .ok (s, E)
  | d + 1, s, E => if op (tK t m s) = 0 then .ok (s, E) else
    match sub (nxt t m s) with
    | .error e => .error e
    | .ok p => spLoop t m sub op d p.1 (E ++ p.2 ++ [(op (tK t m s), 0)])
def spBin (t : Nat → Nat) (m : Nat) (sub : Nat → Rs) (op : Nat → Nat) (s : Nat) : Rs :=
  match sub s with
  | .error e => .error e
  | .ok p => spLoop t m sub op (m - p.1) p.1 p.2
def opP (k : Nat) : Nat := if k = 42 then 10 else if k = 47 then 11 else 0
def opS (k : Nat) : Nat := if k = 43 then 8 else if k = 45 then 9 else 0
def opT (k : Nat) : Nat := if k = 60 then 6 else if k = 61 then 7 else 0
def opA (k : Nat) : Nat := if k = 152 then 4 else 0
def opO (k : Nat) : Nat := if k = 153 then 5 else 0
def spTest (t : Nat → Nat) (m : Nat) (sub : Nat → Rs) (s : Nat) : Rs :=
  match sub s with
  | .error e => .error e
  | .ok p => if opT (tK t m p.1) = 0 then .ok p else
    match sub (nxt t m p.1) with
    | .error e => .error e
    | .ok p2 => .ok (p2.1, p.2 ++ p2.2 ++ [(opT (tK t m p.1), 0)])
def spNot (t : Nat → Nat) (m : Nat) (sub : Nat → Rs) : Nat → Nat → Rs
  | 0, s => if tK t m s = 151 then .error (2, s) else sub s
  | b + 1, s => if tK t m s = 151 then
      match spNot t m sub b (nxt t m s) with
      | .error e => .error e
      | .ok p => .ok (p.1, p.2 ++ [(3, 0)])
    else sub s
def spOr (t : Nat → Nat) (m n : Nat) : Nat → Nat → Rs
  | 0, s => .error (if tK t m s = 131 ∨ tK t m s = 132 ∨ 140 ≤ tK t m s ∨ tK t m s = 40 then 2 else 1, s)
  | d + 1, s => spBin t m (spBin t m (spNot t m (spTest t m (spBin t m (spBin t m (spPart t m n (spOr t m n d)) opP) opS)) 6) opA) opO s
/-- an expression's code: it leaves one value -/
def EW (n : Nat) (E : AC) : Prop := ∀ d rest, cok n rest (d + 1) → cok n (E ++ rest) d
def SP (m n : Nat) (f : Nat → Rs) : Prop := ∀ s, s ≤ m → ∀ p, f s = .ok p → s + p.2.length ≤ p.1 ∧ p.1 ≤ m ∧ 1 ≤ p.2.length ∧ EW n p.2
theorem EW.two {n o : Nat} {A B : AC} (ha : EW n A) (hb : EW n B) (h1 : 4 ≤ o) (h2 : o ≤ 11) : EW n (A ++ B ++ [(o, 0)]) := by
  intro d rest h
  rw [List.append_assoc, List.append_assoc]
  refine ha _ _ (hb _ _ ?_)
  show cok n ((o, 0) :: rest) (d + 1 + 1)
  exact Or.inr (Or.inr ⟨h1, h2, by omega, h⟩)
theorem EW.no {n : Nat} {A : AC} (ha : EW n A) : EW n (A ++ [(3, 0)]) := by
  intro d rest h
  rw [List.append_assoc]
  refine ha _ _ ?_
  show cok n ((3, 0) :: rest) (d + 1)
  exact Or.inr (Or.inl ⟨rfl, by omega, h⟩)
theorem dv_le {t : Nat → Nat} {s : Nat} : ∀ k, (∀ j, j < k → t (s + j) ≤ 57) → dv t s k < 10 ^ k
  | 0, _ => by simp [dv]
  | k + 1, h => by
    have h1 := dv_le k (fun j hj => h j (by omega))
    have h2 := h k (by omega)
    simp only [dv]
    rw [Nat.pow_succ]
    omega
theorem tV_le {t : Nat → Nat} {m s : Nat} (h : tK t m s = 131) : tV t m s ≤ 999 := by
  rcases tK_cases t m s with ⟨-, e, -⟩ | ⟨-, -, -, -, e⟩ | ⟨h1, h2, h3, e2, e1⟩ | ⟨-, -, -, -, h6⟩
  · omega
  · omega
  · have hk : tE t m s - s ≤ 3 := by
      by_cases h9 : tE t m s - s ≤ 3
      · exact h9
      · rw [e1, if_neg h9] at h; omega
    have := dv_le (t := t) (s := s) (tE t m s - s) (fun j hj => by
      have := spn_in isDg t (m - s) s (s + j) (by omega) (by omega)
      unfold isDg at this
      simp only [Bool.and_eq_true, decide_eq_true_eq] at this
      omega)
    have h3 : 10 ^ (tE t m s - s) ≤ 10 ^ 3 := Nat.pow_le_pow_right (by decide) hk
    unfold tV
    omega
  · rcases h6 with ⟨-, e, h7, -⟩ | ⟨-, e⟩ <;> omega
theorem SP_loop {t : Nat → Nat} {m n : Nat} {sub : Nat → Rs} {op : Nat → Nat} (hs : SP m n sub) (ho : ∀ k, op k = 0 ∨ (4 ≤ op k ∧ op k ≤ 11 ∧ k ≠ 128)) : ∀ d s E, s ≤ m → 1 ≤ E.length → EW n E → ∀ p, spLoop t m sub op d s E = .ok p → s + p.2.length ≤ p.1 + E.length ∧ p.1 ≤ m ∧ 1 ≤ p.2.length ∧ EW n p.2 := by
  intro d
  induction d with
  | zero =>
    intro s E hsm hE hw p h
    simp only [spLoop, Except.ok.injEq] at h
    subst h
    exact ⟨Nat.le_refl _, hsm, hE, hw⟩
  | succ d ih =>
    intro s E hsm hE hw p h
    simp only [spLoop] at h
    rcases ho (tK t m s) with h0 | ⟨h1, h2, h3⟩
    · rw [if_pos h0] at h
      simp only [Except.ok.injEq] at h
      subst h
      exact ⟨Nat.le_refl _, hsm, hE, hw⟩
    · rw [if_neg (by omega)] at h
      have hn := nxt_gt t (kd_lt h3)
      have hn2 := nxt_le t hsm
      cases hq : sub (nxt t m s) with
      | error e => rw [hq] at h; exact absurd h (by simp)
      | ok p2 =>
        rw [hq] at h
        obtain ⟨a1, a2, a3, a4⟩ := hs _ hn2 p2 hq
        have := ih p2.1 _ a2 (by simp; omega) (EW.two hw a4 h1 h2) p h
        simp only [List.length_append, List.length_cons, List.length_nil] at this
        exact ⟨by omega, this.2⟩
theorem SP_bin {t : Nat → Nat} {m n : Nat} {sub : Nat → Rs} {op : Nat → Nat} (hs : SP m n sub) (ho : ∀ k, op k = 0 ∨ (4 ≤ op k ∧ op k ≤ 11 ∧ k ≠ 128)) : SP m n (spBin t m sub op) := by
  intro s hsm p h
  unfold spBin at h
  cases hq : sub s with
  | error e => rw [hq] at h; exact absurd h (by simp)
  | ok p1 =>
    rw [hq] at h
    obtain ⟨a1, a2, a3, a4⟩ := hs s hsm p1 hq
    have := SP_loop hs ho _ _ _ a2 a3 a4 p h
    exact ⟨by omega, this.2⟩
theorem opP_ok (k : Nat) : opP k = 0 ∨ (4 ≤ opP k ∧ opP k ≤ 11 ∧ k ≠ 128) := by unfold opP; split; omega; split <;> omega
theorem opS_ok (k : Nat) : opS k = 0 ∨ (4 ≤ opS k ∧ opS k ≤ 11 ∧ k ≠ 128) := by unfold opS; split; omega; split <;> omega
theorem opT_ok (k : Nat) : opT k = 0 ∨ (4 ≤ opT k ∧ opT k ≤ 11 ∧ k ≠ 128) := by unfold opT; split; omega; split <;> omega
theorem opA_ok (k : Nat) : opA k = 0 ∨ (4 ≤ opA k ∧ opA k ≤ 11 ∧ k ≠ 128) := by unfold opA; split <;> omega
theorem opO_ok (k : Nat) : opO k = 0 ∨ (4 ≤ opO k ∧ opO k ≤ 11 ∧ k ≠ 128) := by unfold opO; split <;> omega
theorem SP_test {t : Nat → Nat} {m n : Nat} {sub : Nat → Rs} (hs : SP m n sub) : SP m n (spTest t m sub) := by
  intro s hsm p h
  unfold spTest at h
  cases hq : sub s with
  | error e => rw [hq] at h; exact absurd h (by simp)
  | ok p1 =>
    rw [hq] at h
    obtain ⟨a1, a2, a3, a4⟩ := hs s hsm p1 hq
    rcases opT_ok (tK t m p1.1) with h0 | ⟨h1, h2, h3⟩
    · simp only [if_pos h0, Except.ok.injEq] at h
      subst h
      exact ⟨a1, a2, a3, a4⟩
    · simp only at h
      rw [if_neg (by omega)] at h
      have hn := nxt_gt t (kd_lt h3)
      have hn2 := nxt_le t a2
      cases hq2 : sub (nxt t m p1.1) with
      | error e => rw [hq2] at h; exact absurd h (by simp)
      | ok p2 =>
        rw [hq2] at h
        obtain ⟨b1, b2, b3, b4⟩ := hs _ hn2 p2 hq2
        simp only [Except.ok.injEq] at h
        subst h
        simp only [List.length_append, List.length_cons, List.length_nil]
        exact ⟨by omega, b2, by omega, EW.two a4 b4 h1 h2⟩
theorem SP_not {t : Nat → Nat} {m n : Nat} {sub : Nat → Rs} (hs : SP m n sub) : ∀ b, SP m n (spNot t m sub b) := by
  intro b
  induction b with
  | zero =>
    intro s hsm p h
    unfold spNot at h
    split at h
    · exact absurd h (by simp)
    · exact hs s hsm p h
  | succ b ih =>
    intro s hsm p h
    unfold spNot at h
    split at h
    · rename_i hk
      have hn := nxt_gt t (kd_lt (show tK t m s ≠ 128 by omega))
      have hn2 := nxt_le t hsm
      cases hq : spNot t m sub b (nxt t m s) with
      | error e => rw [hq] at h; exact absurd h (by simp)
      | ok p1 =>
        rw [hq] at h
        obtain ⟨a1, a2, a3, a4⟩ := ih _ hn2 p1 hq
        simp only [Except.ok.injEq] at h
        subst h
        simp only [List.length_append, List.length_cons, List.length_nil]
        exact ⟨by omega, a2, by omega, a4.no⟩
    · exact hs s hsm p h
