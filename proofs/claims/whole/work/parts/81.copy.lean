/-! a net copied -/
def ncp (I : HI) (r0 r1 : Nat) : HI := (cp2 (cp2 (cp2 (cp2 (cp2 (up2 (up2 (up2 I r0 0 (I r1 0)) r0 1 ((up2 I r0 0 (I r1 0)) r1 1)) r0 2 ((up2 (up2 I r0 0 (I r1 0)) r0 1 ((up2 I r0 0 (I r1 0)) r1 1)) r1 2)) (r1 + 1) 0 (r0 + 1) 0 8) (r1 + 2) 0 (r0 + 2) 0 8) (r1 + 3) 0 (r0 + 3) 0 8) (r1 + 4) 0 (r0 + 4) 0 8) (r1 + 5) 0 (r0 + 5) 0 8)
theorem cp2_ne {I : HI} {src sp dst dp n b : Nat} (h : b ≠ dst) : cp2 I src sp dst dp n b = I b := if_neg h
theorem cp2_in {I : HI} {src dst n i : Nat} (h : i < n) : cp2 I src 0 dst 0 n dst i = I src i := by
  unfold cp2 va_cpy
  rw [if_pos rfl]
  show (if 0 ≤ i ∧ i < 0 + n then I src (0 + (i - 0)) else _) = _
  rw [if_pos ⟨by omega, by omega⟩, Nat.zero_add, Nat.sub_zero]
theorem cp2_out {I : HI} {src dst n i : Nat} (h : ¬ i < n) : cp2 I src 0 dst 0 n dst i = I dst i := by
  unfold cp2 va_cpy
  rw [if_pos rfl]
  show (if 0 ≤ i ∧ i < 0 + n then I src (0 + (i - 0)) else _) = _
  rw [if_neg (by omega)]
def apart (r0 r1 : Nat) : Prop := r0 + 8 < r1 ∨ r1 + 8 < r0
theorem ncp_o {I : HI} {r0 r1 b i : Nat} (hb : ¬ (r0 ≤ b ∧ b ≤ r0 + 5)) : ncp I r0 r1 b i = I b i := by
  unfold ncp
  rw [cp2_ne (by omega), cp2_ne (by omega), cp2_ne (by omega), cp2_ne (by omega), cp2_ne (by omega), up2_get, if_neg (by omega), up2_get, if_neg (by omega), up2_get, if_neg (by omega)]
theorem ncp_0 {I : HI} {r0 r1 : Nat} (h : apart r0 r1) : ncp I r0 r1 r0 0 = I r1 0 ∧ ncp I r0 r1 r0 1 = I r1 1 ∧ ncp I r0 r1 r0 2 = I r1 2 := by
  unfold apart at h
  unfold ncp
  refine ⟨?_, ?_, ?_⟩
  all_goals rw [cp2_ne (by omega), cp2_ne (by omega), cp2_ne (by omega), cp2_ne (by omega), cp2_ne (by omega)]
  · rw [up2_get, if_neg (by omega), up2_get, if_neg (by omega), up2_same]
  · rw [up2_get, if_neg (by omega), up2_same, up2_get, if_neg (by omega)]
  · rw [up2_same, up2_get, if_neg (by omega), up2_get, if_neg (by omega)]
theorem ncp_j {I : HI} {r0 r1 j i : Nat} (h : apart r0 r1) (h1 : 1 ≤ j) (h5 : j ≤ 5) (hi : i < 8) : ncp I r0 r1 (r0 + j) i = I (r1 + j) i := by
  unfold apart at h
  unfold ncp
  rcases (show j = 1 ∨ j = 2 ∨ j = 3 ∨ j = 4 ∨ j = 5 by omega) with rfl | rfl | rfl | rfl | rfl
  · rw [cp2_ne (by omega), cp2_ne (by omega), cp2_ne (by omega), cp2_ne (by omega), cp2_in hi, up2_get, if_neg (by omega), up2_get, if_neg (by omega), up2_get, if_neg (by omega)]
  · rw [cp2_ne (by omega), cp2_ne (by omega), cp2_ne (by omega), cp2_in hi, cp2_ne (by omega), up2_get, if_neg (by omega), up2_get, if_neg (by omega), up2_get, if_neg (by omega)]
  · rw [cp2_ne (by omega), cp2_ne (by omega), cp2_in hi, cp2_ne (by omega), cp2_ne (by omega), up2_get, if_neg (by omega), up2_get, if_neg (by omega), up2_get, if_neg (by omega)]
  · rw [cp2_ne (by omega), cp2_in hi, cp2_ne (by omega), cp2_ne (by omega), cp2_ne (by omega), up2_get, if_neg (by omega), up2_get, if_neg (by omega), up2_get, if_neg (by omega)]
  · rw [cp2_in hi, cp2_ne (by omega), cp2_ne (by omega), cp2_ne (by omega), cp2_ne (by omega), up2_get, if_neg (by omega), up2_get, if_neg (by omega), up2_get, if_neg (by omega)]
theorem Net_copy_k {I : HI} {T F : HR} {L : HL} {own : Nat → Nat} {r0 r1 : Nat} {a : AN} (W : WF a) (N : CN I r1 a) (C : CT I T F L own r1 a) (hb : ∀ i, i < 8192 → byt (I (r0 + 7) i)) (hp : apart r0 r1) {Q : HI → HR → Prop} (hQ : ∀ I' T', Fr (nP r0) I I' → CN I' r0 a → (∀ w, w < 8 → T' (r0 + 6) w = T (r1 + 6) w) → (∀ b j, ¬ (b = r0 + 6 ∧ j < 8) → T' b j = T b j) → Q I' T') : Net_copy I T L r0 r1 Q := by
  have n8 := W.2.1
  obtain ⟨e0, e1, e2, e3, e4, e5, e6, ⟨o, eo1, eo2⟩, e8, e9⟩ := N
  obtain ⟨g0, g1, g2⟩ := ncp_0 (I := I) hp
  have en : ncp I r0 r1 r0 0 * 1024 = nI (1024 * an a) := by rw [g0, e0, nlit1024, nM, Nat.mul_comm]
  have hp' := hp
  unfold apart at hp'
  have g7 : ∀ i, ncp I r0 r1 (r1 + 7) i = I (r1 + 7) i := fun i => ncp_o (by omega)
  show ¬ ncp I r0 r1 r0 0 * 1024 < 0 ∧ 0 + nx (ncp I r0 r1 r0 0 * 1024) ≤ 8192 ∧ 0 + nx (ncp I r0 r1 r0 0 * 1024) ≤ 8192 ∧ (∀ i, i < nx (ncp I r0 r1 r0 0 * 1024) → fits .byte (.int (ncp I r0 r1 (r1 + 7) (0 + i))) = true) ∧ ∃ nn, Net_copy_l122 (cp2 (ncp I r0 r1) (r1 + 7) 0 (r0 + 7) 0 (nx (ncp I r0 r1 r0 0 * 1024))) L r0 r1 Q nn T 0
  rw [en, nx_nI (by omega)]
  refine ⟨nI_pos (by omega), by omega, by omega, fun i hi => ?_, ?_⟩
  · rw [Nat.zero_add, g7]; exact e8 i (by omega)
  generalize hI' : cp2 (ncp I r0 r1) (r1 + 7) 0 (r0 + 7) 0 (1024 * an a) = I'
  have f : Fr (nP r0) I I' := fun b i hn => by
    unfold nP at hn
    rw [← hI', cp2_ne (by omega), ncp_o (by omega)]
  have k0 : ∀ i, I' r0 i = ncp I r0 r1 r0 i := fun i => by rw [← hI', cp2_ne (by omega)]
  have kj : ∀ j i, 1 ≤ j → j ≤ 5 → i < 8 → I' (r0 + j) i = I (r1 + j) i := fun j i h1 h5 hi => by rw [← hI', cp2_ne (by omega), ncp_j hp h1 h5 hi]
  have k7 : ∀ i, i < 1024 * an a → I' (r0 + 7) i = I (r1 + 7) i := fun i hi => by rw [← hI', cp2_in hi, g7]
  have k7' : ∀ i, ¬ i < 1024 * an a → I' (r0 + 7) i = I (r0 + 7) i := fun i hi => by rw [← hI', cp2_out hi, ncp_o (by omega)]
  have N' : CN I' r0 a := by
    refine ⟨by rw [k0, g0]; exact e0, by rw [k0, g1]; exact e1, by rw [k0, g2]; exact e2, fun w hw => ?_, fun w hw => ?_, fun w hw => ?_, fun w hw => ?_, ⟨o, eo1, fun i hi => ?_⟩, fun i hi => ?_, fun w hw h0 v hv => ?_⟩
    · rw [kj 1 w (by omega) (by omega) (by omega)]; exact e3 w hw
    · rw [kj 2 w (by omega) (by omega) (by omega)]; exact e4 w hw
    · rw [kj 3 w (by omega) (by omega) (by omega)]; exact e5 w hw
    · rw [kj 4 w (by omega) (by omega) (by omega)]; exact e6 w hw
    · rw [kj 5 i (by omega) (by omega) (by omega)]; exact eo2 i hi
    · by_cases h : i < 1024 * an a
      · rw [k7 i h]; exact e8 i hi
      · rw [k7' i h]; exact hb i hi
    · have := W.k1 w hw h0
      have hv' : v < avw a w := hv
      rw [k7 _ (by omega)]; exact e9 w hw h0 v hv
  have key : ∀ d i T', i + d = 8 → (∀ w, w < i → T' (r0 + 6) w = T (r1 + 6) w) → (∀ b j, ¬ (b = r0 + 6 ∧ j < 8) → T' b j = T b j) → Net_copy_l122 I' L r0 r1 Q (d + 1) T' (nI i) := by
    intro d
    induction d with
    | zero =>
      intro i T' hi h1 h2
      rw [Net_copy_l122, nlit8]
      exact it (nI_le (by omega) (by omega)) (hQ I' T' f N' (fun w hw => h1 w (by omega)) h2)
    | succ d ih =>
      intro i T' hi h1 h2
      rw [Net_copy_l122, nlit8, nx_nI (by omega), nI_1, h2 (r1 + 6) i (by omega)]
      refine ie (nI_ge (by omega) (by omega)) ⟨vin (by omega) (by omega), vin (by omega) (by omega), fun f' hf => C.2.1 i f' (by omega) hf, ih (i + 1) _ (by omega) (fun w hw => ?_) (fun b j hn => ?_)⟩
      · rw [up2_get]
        by_cases e : w = i
        · rw [if_pos ⟨rfl, e⟩, e]
        · rw [if_neg (by omega)]; exact h1 w (by omega)
      · rw [up2_get, if_neg (by omega)]; exact h2 b j hn
  exact ⟨9, key 8 0 T (by omega) (fun w hw => by omega) (fun _ _ _ => rfl)⟩
/-- the texts of a net copied -/
theorem CT_copy {I I' : HI} {T T' F F' : HR} {L L' : HL} {own : Nat → Nat} {r0 r1 : Nat} {a : AN} (C : CT I T F L own r1 a) (n8 : an a ≤ 8) (ho : ∀ j, j ≤ 8 → own (r0 + j) ≠ 2 ∧ own (r0 + j) ≠ 3) (hI : ∀ b i, own b = 2 → I' b i = I b i) (hT : ∀ w, w < 8 → T' (r0 + 6) w = T (r1 + 6) w) (e : Ext F L F' L') : CT I' T' F' L' own r0 a := by
  obtain ⟨h1, h2, h3⟩ := C
  refine ⟨ho, fun w f hw hf => e.1 _ (h2 w f hw (by rw [← hT w hw]; exact hf)), fun w hw => ?_⟩
  rw [hT w (by omega)]
  rcases h3 w hw with h | ⟨h, f, h4, h5⟩
  · exact Or.inl h
  · exact Or.inr ⟨h, f, h4, h5.fr hI e⟩
theorem Frep.own {I : HI} {F : HR} {L : HL} {own own' : Nat → Nat} {f : Nat} {c : Option AC × AC} (h : Frep I F L own f c) (ho : ∀ b, own b ≠ 0 → own' b = own b) : Frep I F L own' f c := by
  obtain ⟨n, k, l, q, v, h1, o1, o2, o3, o4, o5, h2⟩ := h
  exact ⟨n, k, l, q, v, h1, (ho _ (by omega)).trans o1, (ho _ (by omega)).trans o2, (ho _ (by omega)).trans o3, (ho _ (by omega)).trans o4, (ho _ (by omega)).trans o5, h2⟩
theorem CT.own {I : HI} {T F : HR} {L : HL} {own own' : Nat → Nat} {r : Nat} {a : AN} (C : CT I T F L own r a) (ho : ∀ b, own b ≠ 0 → own' b = own b) (hr : ∀ j, j ≤ 8 → own' (r + j) ≠ 2 ∧ own' (r + j) ≠ 3) : CT I T F L own' r a := by
  obtain ⟨h1, h2, h3⟩ := C
  refine ⟨hr, h2, fun w hw => ?_⟩
  rcases h3 w hw with h | ⟨h, f, h4, h5⟩
  · exact Or.inl h
  · exact Or.inr ⟨h, f, h4, h5.own ho⟩
/-- code hangs on its own cells alone -/
theorem mco_lt {C C' : Nat → Int32} {B : Nat} (h : ∀ k, k < B → C' k = C k) : ∀ (c : AC) (p : Nat), p + mcl c ≤ B → mco C c p → mco C' c p
  | [], p, hb, hc => by
    have hb : p + 1 ≤ B := hb
    exact (h p (by omega)).trans hc
  | (o, x) :: r, p, hb, hc => by
    unfold mco at hc ⊢
    unfold mcl at hb
    have h1 : 1 ≤ mcl r := by
      cases r with
      | nil => exact Nat.le_refl _
      | cons x y => unfold mcl; split <;> omega
    rw [h p (by split at hb <;> omega)]
    refine ⟨hc.1, ?_⟩
    have hc := hc.2
    by_cases ho : o ≤ 2
    · rw [if_pos ho] at hc hb ⊢
      rw [h (p + 1) (by omega)]
      exact ⟨hc.1, mco_lt h r _ (by omega) hc.2⟩
    · rw [if_neg ho] at hc hb ⊢; exact mco_lt h r _ (by omega) hc
/-- the cells of slot s in the reference -/
def SC (s b i : Nat) : Prop := (b = 38 ∨ b = 39) ∧ i = s ∨ (b = 40 ∨ b = 41 ∨ b = 42 ∨ b = 45 ∨ b = 46) ∧ 8 * s ≤ i ∧ i < 8 * s + 8 ∨ b = 43 ∧ 8192 * s ≤ i ∧ i < 8192 * s + 8192 ∨ b = 44 ∧ 8000 * s ≤ i ∧ i < 8000 * s + 8000
theorem RepS.eq2 {I I' : HI} {s : Nat} {a : AN} (W : WF a) (h : ∀ b i, SC s b i → I' b i = I b i) (R : RepS I s a) : RepS I' s a := by
  have n8 := W.2.1
  obtain ⟨e1, e2, e3⟩ := R
  refine ⟨(h _ _ (by unfold SC; omega)).trans e1, (h _ _ (by unfold SC; omega)).trans e2, fun w hw => ?_⟩
  obtain ⟨g1, g2, g3, g4, g5⟩ := e3 w hw
  refine ⟨(h _ _ (by unfold SC; omega)).trans g1, (h _ _ (by unfold SC; omega)).trans g2, (h _ _ (by unfold SC; omega)).trans g3, fun h0 v hv => ?_, fun h1 => ?_⟩
  · have := W.k1 w hw h0
    have hv' : v < avw a w := hv
    exact (h _ _ (by unfold SC; omega)).trans (g4 h0 v hv)
  · obtain ⟨t, t1, t2, t3, t4⟩ := g5 h1
    have hc : ∀ k, k < 8000 → I' 44 (8000 * s + k) = I 44 (8000 * s + k) := fun k hk => h _ _ (by unfold SC; omega)
    refine ⟨t, (h _ _ (by unfold SC; omega)).trans t1, mco_lt (B := 8000) hc _ _ (by omega) t2, t3, ?_⟩
    cases hc1 : (acd a w).1 with
    | none => rw [hc1] at t4; exact (h _ _ (by unfold SC; omega)).trans t4
    | some p => rw [hc1] at t4; exact ⟨(h _ _ (by unfold SC; omega)).trans t4.1, mco_lt (B := 8000) hc _ _ (by omega) t4.2.1, t4.2.2⟩
