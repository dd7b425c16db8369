/-! the invariant between the class's cells and the reference's -/
/-- the rows given up, by the number of wearers -/
def cov : Nat → List Nat
  | 1 => [0]
  | 2 => [0, 1]
  | 3 => [0, 7]
  | 4 => [0, 1, 14, 15]
  | 5 => [0, 1, 2, 15, 23, 27, 28]
  | _ => []
def Own (own : Nat → Nat) (ro : Nat) (L : HL) : Prop := (∀ b, b < 56 → own b = 0) ∧ own ro = 0 ∧ (∀ b, own b ≠ 0 → ∃ p ∈ L, p.1 = b) ∧ (ro, 4, 1) ∈ L ∧ 56 ≤ ro
def JudI (h : Nat → Nat) (I IM : HI) : Prop := (∀ c, c < 4 → I 24 c = nI (h c) ∧ IM 1 c = nI (h c) ∧ h c ≤ 9) ∧ ∃ lw k, I 23 1 = nI lw ∧ IM 0 4 = nI lw ∧ lw ≤ 3 ∧ I 23 2 = nI k ∧ IM 0 5 = nI k ∧ k ≤ 8
def TapI (I IM : HI) : Prop := ∃ t, I 0 8 = nI t ∧ IM 0 16 = nI t ∧ t ≤ 500 ∧ ∀ k, k < t → ∃ b, b < 256 ∧ I 34 k = nI b ∧ IM 10 k = nI b
def SumI (I IM : HI) : Prop := ∃ s, I 39 1 = nI s ∧ IM 0 50 = nI s ∧ s ≤ 8 ∧ ∀ w, w < s → I 40 w = IM 28 w
def CovI (I IM : HI) : Prop := (∃ c, I 44 2 = nI c ∧ c ≤ 5 ∧ I 44 0 = nI (cov c).length ∧ IM 0 54 = nI (cov c).length ∧ ∀ i, i < (cov c).length → I 45 i = nI ((cov c).getD i 0) ∧ IM 31 i = nI ((cov c).getD i 0)) ∧
  ∀ n, 1 ≤ n → n ≤ 5 → IM 35 n = 0 ∨ (IM 35 n = nI (cov n).length ∧ ∀ i, i < (cov n).length → IM 36 (32 * n + i) = nI ((cov n).getD i 0))
def mcdS (I : HI) (s w : Nat) (c : Option AC × AC) : Prop := ∃ t, I 46 (8 * s + w) = nI t ∧ mco (fun k => I 44 (8000 * s + k)) c.2 (1000 * w + t) ∧ t + mcl c.2 ≤ 1000 ∧ match c.1 with
  | none => I 45 (8 * s + w) = -1
  | some p => I 45 (8 * s + w) = 0 ∧ mco (fun k => I 44 (8000 * s + k)) p (1000 * w) ∧ mcl p ≤ 1000
/-- a slot of the reference -/
def RepS (I : HI) (s : Nat) (a : AN) : Prop := I 38 s = nI (an a) ∧ I 39 s = nI (aq a) ∧ ∀ w, w < an a → I 40 (8 * s + w) = nI (alk a w) ∧ I 41 (8 * s + w) = nI (ard a w) ∧ I 42 (8 * s + w) = nI (akd a w) ∧ (akd a w = 0 → ∀ v, v < avw a w → I 43 (8192 * s + (1024 * w + v)) = nI (atb a w v)) ∧ (akd a w = 1 → mcdS I s w (acd a w))
/-- the line's rules -/
def lc (w : Nat) : Option AC × AC := (none, if w = 0 then [(2, 11)] else [(2, 10), (2, 11), (9, 0), (2, 12), (2, 10), (9, 0), (9, 0)])
/-- the two formulas of the line, made once at the start -/
def LnF (own : Nat → Nat) (I : HI) (F : HR) (L : HL) : Prop := (0, 17, 0) ∈ L ∧ ∃ f g, F 0 13 = some f ∧ F 0 14 = some g ∧ Frep I F L own f (lc 0) ∧ Frep I F L own g (lc 1)
theorem LnF.fr {own : Nat → Nat} {I I' : HI} {F F' : HR} {L L' : HL} (h : LnF own I F L) (hI : ∀ b i, own b = 2 → I' b i = I b i) (e : Ext F L F' L') : LnF own I' F' L' := by
  obtain ⟨h0, f, g, h1, h2, h3, h4⟩ := h
  have e0 := e.2 _ h0
  dsimp only at e0
  exact ⟨e.1 _ h0, f, g, by rw [e0]; exact h1, by rw [e0]; exact h2, h3.fr hI e, h4.fr hI e⟩
def Slt (own : Nat → Nat) (I : HI) (T F : HR) (L : HL) (IM : HI) (s : Nat) : Prop := (T 19 s = none ∧ IM 38 s = 0) ∨ ∃ r b, T 19 s = some r ∧ NetSh F L r ∧ WF b ∧ CN I r b ∧ CT I T F L own r b ∧ RepS IM s b ∧ (∀ j, j ≤ 8 → own (r + j) = 4 + s) ∧ 56 ≤ r
/-- a slot; the line's formulas stand beside it -/
def Slot1 (own : Nat → Nat) (I : HI) (T F : HR) (L : HL) (IM : HI) (s : Nat) : Prop := LnF own I F L ∧ Slt own I T F L IM s
def Rest (own h : Nat → Nat) (ro : Nat) (I : HI) (T F : HR) (L : HL) (IM : HI) : Prop := Own own ro L ∧ Geo F L ∧ (∀ i, i < 8192 → byt (I 17 i)) ∧ JudI h I IM ∧ TapI I IM ∧ I 28 1 = IM 0 18 ∧ I 35 0 = IM 0 49 ∧ SumI I IM ∧ CovI I IM ∧ ∀ s, s < 4 → Slot1 own I T F L IM s
def WorI (a : AN) (IM : HI) : Prop := IM 0 40 = 0 ∨ (IM 0 40 = 1 ∧ ∀ r, r < aq a ^ an a → IM 20 r = nI (rt a r) ∧ IM 21 r = nI (wr a r) ∧ ∀ w, w < an a → IM 22 (8 * r + w) = nI (gs a (hat a r) w))
def LedI (a : AN) (h : Nat → Nat) (I : HI) : Prop := I 26 1 = 0 ∨ (I 26 1 = 1 ∧ ∀ r, r < aq a ^ an a → I 27 r = nI (rt a r + 256 * wr a r + (if cts a h r then 65536 else 0)))
def InvB (own h : Nat → Nat) (a : AN) (ro : Nat) (I : HI) (T F : HR) (L : HL) (IM : HI) : Prop := WF a ∧ RepM IM a ∧ CN I 1 a ∧ CT I T F L own 1 a ∧ WorI a IM ∧ LedI a h I ∧ Rest own h ro I T F L IM
def Inv (ro : Nat) (S : HS) (IM : HI) (_ : HJ) : Prop := ∃ own h a, InvB own h a ro S.1 S.2.2.1 S.2.2.2.1 S.2.2.2.2 IM
def RC (own : Nat → Nat) : Nat → Nat → Prop := fun b i => b = 17 ∨ b = 24 ∨ (b = 23 ∧ (i = 1 ∨ i = 2)) ∨ (b = 0 ∧ i = 8) ∨ b = 34 ∨ (b = 28 ∧ i = 1) ∨ (b = 35 ∧ i = 0) ∨ (b = 39 ∧ i = 1) ∨ b = 40 ∨ (b = 44 ∧ (i = 0 ∨ i = 2)) ∨ b = 45 ∨ own b = 2 ∨ 4 ≤ own b
def RM : Nat → Nat → Prop := fun b i => b = 1 ∨ (b = 0 ∧ (i = 4 ∨ i = 5 ∨ i = 16 ∨ i = 18 ∨ i = 49 ∨ i = 50 ∨ i = 54)) ∨ b = 10 ∨ b = 28 ∨ b = 31 ∨ b = 35 ∨ b = 36 ∨ 38 ≤ b
theorem CN.eq {I I' : HI} {r : Nat} {a : AN} (N : CN I r a) (h : ∀ j i, j ≤ 8 → I' (r + j) i = I (r + j) i) : CN I' r a := by
  obtain ⟨e0, e1, e2, e3, e4, e5, e6, e7, e8, e9⟩ := N
  refine ⟨(h 0 _ (by omega)).trans e0, (h 0 _ (by omega)).trans e1, (h 0 _ (by omega)).trans e2, fun w hw => (h 1 _ (by omega)).trans (e3 w hw), fun w hw => (h 2 _ (by omega)).trans (e4 w hw), fun w hw => (h 3 _ (by omega)).trans (e5 w hw), fun w hw => (h 4 _ (by omega)).trans (e6 w hw), ?_, fun i hi => ?_, fun w hw h0 v hv => (h 7 _ (by omega)).trans (e9 w hw h0 v hv)⟩
  · obtain ⟨o, h1, h2⟩ := e7
    exact ⟨o, h1, fun i hi => (h 5 _ (by omega)).trans (h2 i hi)⟩
  · rw [h 7 _ (by omega)]; exact e8 i hi
theorem mco_eq {C C' : Nat → Int32} (h : ∀ k, C' k = C k) : ∀ (c : AC) (p : Nat), mco C c p → mco C' c p
  | [], p, hc => (h p).trans hc
  | (o, x) :: r, p, hc => by
    unfold mco at hc ⊢
    rw [h, h]
    refine ⟨hc.1, ?_⟩
    have hc := hc.2
    by_cases ho : o ≤ 2
    · rw [if_pos ho] at hc ⊢; exact ⟨hc.1, mco_eq h r _ hc.2⟩
    · rw [if_neg ho] at hc ⊢; exact mco_eq h r _ hc
theorem mcdS.eq {I I' : HI} {s w : Nat} {c : Option AC × AC} (h : ∀ b i, 38 ≤ b → I' b i = I b i) (hc : mcdS I s w c) : mcdS I' s w c := by
  obtain ⟨t, h1, h2, h3, h4⟩ := hc
  refine ⟨t, (h _ _ (by omega)).trans h1, mco_eq (fun k => h _ _ (by omega)) _ _ h2, h3, ?_⟩
  cases hc1 : c.1 with
  | none => rw [hc1] at h4; exact (h _ _ (by omega)).trans h4
  | some p => rw [hc1] at h4; exact ⟨(h _ _ (by omega)).trans h4.1, mco_eq (fun k => h _ _ (by omega)) _ _ h4.2.1, h4.2.2⟩
theorem RepS.eq {I I' : HI} {s : Nat} {a : AN} (h : ∀ b i, 38 ≤ b → I' b i = I b i) (R : RepS I s a) : RepS I' s a := by
  obtain ⟨e1, e2, e3⟩ := R
  refine ⟨(h _ _ (by omega)).trans e1, (h _ _ (by omega)).trans e2, fun w hw => ?_⟩
  obtain ⟨g1, g2, g3, g4, g5⟩ := e3 w hw
  exact ⟨(h _ _ (by omega)).trans g1, (h _ _ (by omega)).trans g2, (h _ _ (by omega)).trans g3, fun h0 v hv => (h _ _ (by omega)).trans (g4 h0 v hv), fun h1 => (g5 h1).eq h⟩
theorem Slot1.fr {own : Nat → Nat} {I I' : HI} {T T' F F' : HR} {L L' : HL} {IM IM' : HI} {s : Nat} (h : Slot1 own I T F L IM s) (hI : ∀ b i, RC own b i → I' b i = I b i) (hT : ∀ b i, b = 19 ∨ 4 ≤ own b → T' b i = T b i) (e : Ext F L F' L') (hM : ∀ b i, RM b i → IM' b i = IM b i) : Slot1 own I' T' F' L' IM' s := by
  have hM2 : ∀ b i, 38 ≤ b → IM' b i = IM b i := fun b i hb => hM b i (by unfold RM; omega)
  obtain ⟨hLn, h⟩ := h
  refine ⟨hLn.fr (fun b i hb => hI b i (by unfold RC; omega)) e, ?_⟩
  rcases h with ⟨h1, h2⟩ | ⟨r, b, h1, h2, h3, h4, h5, h6, h7, h8⟩
  · exact Or.inl ⟨(hT _ _ (Or.inl rfl)).trans h1, (hM2 _ _ (by omega)).trans h2⟩
  · refine Or.inr ⟨r, b, (hT _ _ (Or.inl rfl)).trans h1, net_ext e h2, h3, h4.eq (fun j i hj => hI _ _ ?_), h5.fr (fun b i hb => hI _ _ ?_) (fun w _ => hT _ _ (Or.inr ?_)) h3.2.1 e, h6.eq hM2, h7, h8⟩
    · have := h7 j hj; unfold RC; omega
    · unfold RC; omega
    · have := h7 6 (by omega); omega
theorem Rest.fr {own h : Nat → Nat} {ro : Nat} {I I' : HI} {T T' F F' : HR} {L L' : HL} {IM IM' : HI} (R : Rest own h ro I T F L IM) (hI : ∀ b i, RC own b i → I' b i = I b i) (hT : ∀ b i, b = 19 ∨ 4 ≤ own b → T' b i = T b i) (e : Ext F L F' L') (hM : ∀ b i, RM b i → IM' b i = IM b i) : Rest own h ro I' T' F' L' IM' := by
  obtain ⟨r1, r2, r3, r4, r5, r6, r7, r8, r9, r10⟩ := R
  refine ⟨⟨r1.1, r1.2.1, fun b hb => ?_, e.1 _ r1.2.2.2.1, r1.2.2.2.2⟩, geo_ext e r2, fun i hi => ?_, ?_, ?_, ?_, ?_, ?_, ?_, fun s hs => (r10 s hs).fr hI hT e hM⟩
  · obtain ⟨p, hp, he⟩ := r1.2.2.1 b hb; exact ⟨p, e.1 p hp, he⟩
  · rw [hI _ _ (by unfold RC; omega)]; exact r3 i hi
  · obtain ⟨j1, lw, k, j2, j3, j4, j5, j6, j7⟩ := r4
    exact ⟨fun c hc => ⟨(hI _ _ (by unfold RC; omega)).trans (j1 c hc).1, (hM _ _ (by unfold RM; omega)).trans (j1 c hc).2.1, (j1 c hc).2.2⟩, lw, k, (hI _ _ (by unfold RC; omega)).trans j2, (hM _ _ (by unfold RM; omega)).trans j3, j4, (hI _ _ (by unfold RC; omega)).trans j5, (hM _ _ (by unfold RM; omega)).trans j6, j7⟩
  · obtain ⟨t, t1, t2, t3, t4⟩ := r5
    refine ⟨t, (hI _ _ (by unfold RC; omega)).trans t1, (hM _ _ (by unfold RM; omega)).trans t2, t3, fun k hk => ?_⟩
    obtain ⟨b, b1, b2, b3⟩ := t4 k hk
    exact ⟨b, b1, (hI _ _ (by unfold RC; omega)).trans b2, (hM _ _ (by unfold RM; omega)).trans b3⟩
  · rw [hI _ _ (by unfold RC; omega), hM _ _ (by unfold RM; omega)]; exact r6
  · rw [hI _ _ (by unfold RC; omega), hM _ _ (by unfold RM; omega)]; exact r7
  · obtain ⟨s, s1, s2, s3, s4⟩ := r8
    exact ⟨s, (hI _ _ (by unfold RC; omega)).trans s1, (hM _ _ (by unfold RM; omega)).trans s2, s3, fun w hw => by rw [hI _ _ (by unfold RC; omega), hM _ _ (by unfold RM; omega)]; exact s4 w hw⟩
  · obtain ⟨⟨c, c1, c2, c3, c4, c5⟩, c6⟩ := r9
    refine ⟨⟨c, (hI _ _ (by unfold RC; omega)).trans c1, c2, (hI _ _ (by unfold RC; omega)).trans c3, (hM _ _ (by unfold RM; omega)).trans c4, fun i hi => ⟨(hI _ _ (by unfold RC; omega)).trans (c5 i hi).1, (hM _ _ (by unfold RM; omega)).trans (c5 i hi).2⟩⟩, fun n h1 h5 => ?_⟩
    rcases c6 n h1 h5 with g | ⟨g1, g2⟩
    · exact Or.inl ((hM _ _ (by unfold RM; omega)).trans g)
    · exact Or.inr ⟨(hM _ _ (by unfold RM; omega)).trans g1, fun i hi => (hM _ _ (by unfold RM; omega)).trans (g2 i hi)⟩
theorem Inv_G : PureG Inv := by
  intro ro I J T F L IM JM h
  obtain ⟨own, h, a, h1, h2, h3, h4, h5, h6, h7⟩ := h
  exact ⟨h7.2.1, h7.1.2.2.2.1⟩
