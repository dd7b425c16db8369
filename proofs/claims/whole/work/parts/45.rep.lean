/-! the net as a thing of its own, and how both sides hold it -/
abbrev AC : Type := List (Nat × Nat)
abbrev AN : Type := Nat × Nat × (Nat → Nat) × (Nat → Nat) × (Nat → Nat) × (Nat → Nat → Nat) × (Nat → Option AC × AC)
abbrev an (a : AN) : Nat := a.1
abbrev aq (a : AN) : Nat := a.2.1
abbrev alk (a : AN) : Nat → Nat := a.2.2.1
abbrev ard (a : AN) : Nat → Nat := a.2.2.2.1
abbrev akd (a : AN) : Nat → Nat := a.2.2.2.2.1
abbrev atb (a : AN) : Nat → Nat → Nat := a.2.2.2.2.2.1
abbrev acd (a : AN) : Nat → Option AC × AC := a.2.2.2.2.2.2
abbrev avw (a : AN) (w : Nat) : Nat := vw (an a) (aq a) (alk a) (ard a) w
def upn {α : Type} (f : Nat → α) (w : Nat) (v : α) : Nat → α := fun k => if k = w then v else f k
theorem upn_same {α : Type} (f : Nat → α) (w : Nat) (v : α) : upn f w v w = v := if_pos rfl
theorem upn_ne {α : Type} (f : Nat → α) {w k : Nat} (v : α) (h : k ≠ w) : upn f w v k = f k := if_neg h
/-- a value's place: 16 times the wearer and the kind -/
def vok (n x : Nat) : Prop := 6 ≤ x % 16 ∧ x % 16 ≤ 12 ∧ x / 16 < n
def cok (n : Nat) : AC → Nat → Prop
  | [], d => d = 1
  | (o, x) :: r, d => ((o = 1 ∧ x ≤ 999 ∨ o = 2 ∧ vok n x) ∧ cok n r (d + 1)) ∨ (o = 3 ∧ 1 ≤ d ∧ cok n r d) ∨ (4 ≤ o ∧ o ≤ 11 ∧ 2 ≤ d ∧ cok n r (d - 1))
/-- how long the reference's code of it is, its end with it -/
def mcl : AC → Nat
  | [] => 1
  | (o, _) :: r => (if o ≤ 2 then 2 else 1) + mcl r
/-- the reference's code at a place -/
def mco (C : Nat → Int32) : AC → Nat → Prop
  | [], p => C p = 0
  | (o, x) :: r, p => C p = nI o ∧ (if o ≤ 2 then C (p + 1) = nI x ∧ mco C r (p + 2) else mco C r (p + 1))
def mcd (I : HI) (w : Nat) (c : Option AC × AC) : Prop := ∃ t, I 8 w = nI t ∧ mco (I 6) c.2 (1000 * w + t) ∧ t + mcl c.2 ≤ 1000 ∧ match c.1 with
  | none => I 7 w = -1
  | some p => I 7 w = 0 ∧ mco (I 6) p (1000 * w) ∧ mcl p ≤ 1000
def cdok (n : Nat) (c : Option AC × AC) : Prop := cok n c.2 0 ∧ (c.1.getD []).length + c.2.length ≤ 500 ∧ ∀ p, c.1 = some p → cok n p 0
def WF (a : AN) : Prop := 1 ≤ an a ∧ an a ≤ 8 ∧ 2 ≤ aq a ∧ aq a ≤ 4 ∧ aq a ^ an a ≤ 6561 ∧ ∀ w, w < an a → alk a w < 2 ^ an a ∧ (alk a w).testBit w = false ∧ ard a w ≤ 7 ∧ (akd a w = 1 ∧ cdok (an a) (acd a w) ∨ akd a w = if avw a w ≤ 1024 then 0 else 2) ∧ (akd a w = 0 → ∀ v, v < avw a w → atb a w v ≤ aq a)
def RepM (I : HI) (a : AN) : Prop := MN I (an a) (aq a) (alk a) (ard a) ∧ I 0 3 = nI (aq a ^ an a) ∧ ∀ w, w < an a → I 4 w = nI (akd a w) ∧ (akd a w = 0 → ∀ v, v < avw a w → I 5 (1024 * w + v) = nI (atb a w v)) ∧ (akd a w = 1 → mcd I w (acd a w))
/-- the class's sort of a part -/
def ckd (o x : Nat) : Nat := match o with
  | 1 => 131
  | 2 => 138 + x % 16
  | 3 => 151
  | 4 => 152
  | 5 => 153
  | 6 => 60
  | 7 => 61
  | 8 => 43
  | 9 => 45
  | 10 => 42
  | _ => 47
/-- the class's parts from place i on, st: the places whose values wait -/
def crel (I : HI) (k l q : Nat) : AC → Nat → List Nat → Prop
  | [], _, _ => True
  | (o, x) :: r, i, st => I k i = nI (ckd o x) ∧ (if o = 1 then I l i = nI x ∧ crel I k l q r (i + 1) (i :: st) else if o = 2 then I l i = nI (x / 16) ∧ crel I k l q r (i + 1) (i :: st) else
      match st with
      | [] => False
      | b :: s1 => if o = 3 then I l i = nI b ∧ I q i = nI b ∧ crel I k l q r (i + 1) (i :: s1) else
          match s1 with
          | [] => False
          | c :: s2 => I l i = nI c ∧ I q i = nI b ∧ crel I k l q r (i + 1) (i :: s2))
def Frep (I : HI) (F : HR) (L : HL) (own : Nat → Nat) (f : Nat) (c : Option AC × AC) : Prop := ∃ n k l q v, FrmSh F L f n k l q v ∧ own f = 2 ∧ own k = 2 ∧ own l = 2 ∧ own q = 2 ∧ own v = 3 ∧ n = (c.1.getD []).length + c.2.length ∧ I f 4 = nI (c.1.getD []).length ∧ crel I k l q (c.1.getD []) 0 [] ∧ crel I k l q c.2 (c.1.getD []).length []
theorem crel_fr {I I' : HI} {k l q : Nat} (hk : ∀ i, I' k i = I k i) (hl : ∀ i, I' l i = I l i) (hq : ∀ i, I' q i = I q i) : ∀ (c : AC) (i : Nat) (st : List Nat), crel I k l q c i st → crel I' k l q c i st
  | [], _, _, _ => trivial
  | (o, x) :: r, i, st, h => by
    unfold crel at h ⊢
    rw [hk, hl, hq]
    refine ⟨h.1, ?_⟩
    have h := h.2
    by_cases h1 : o = 1
    · rw [if_pos h1] at h ⊢; exact ⟨h.1, crel_fr hk hl hq r _ _ h.2⟩
    · rw [if_neg h1] at h ⊢
      by_cases h2 : o = 2
      · rw [if_pos h2] at h ⊢; exact ⟨h.1, crel_fr hk hl hq r _ _ h.2⟩
      · rw [if_neg h2] at h ⊢
        match st, h with
        | b :: s1, h =>
          dsimp only at h ⊢
          by_cases h3 : o = 3
          · rw [if_pos h3] at h ⊢; exact ⟨h.1, h.2.1, crel_fr hk hl hq r _ _ h.2.2⟩
          · rw [if_neg h3] at h ⊢
            match s1, h with
            | c :: s2, h => exact ⟨h.1, h.2.1, crel_fr hk hl hq r _ _ h.2.2⟩
theorem Frep.fr {I I' : HI} {F F' : HR} {L L' : HL} {own : Nat → Nat} {f : Nat} {c : Option AC × AC} (h : Frep I F L own f c) (hI : ∀ b i, own b = 2 → I' b i = I b i) (e : Ext F L F' L') : Frep I' F' L' own f c := by
  obtain ⟨n, k, l, q, v, h1, o1, o2, o3, o4, o5, h2, h3, h4, h5⟩ := h
  exact ⟨n, k, l, q, v, frm_ext e h1, o1, o2, o3, o4, o5, h2, (hI _ _ o1).trans h3, crel_fr (fun i => hI _ i o2) (fun i => hI _ i o3) (fun i => hI _ i o4) _ _ _ h4, crel_fr (fun i => hI _ i o2) (fun i => hI _ i o3) (fun i => hI _ i o4) _ _ _ h5⟩
def byt (x : Int32) : Prop := fits .byte (.int x) = true
/-- the class's numbers of a net at r -/
def CN (I : HI) (r : Nat) (a : AN) : Prop := I r 0 = nI (an a) ∧ I r 1 = nI (aq a) ∧ I r 2 = nI (aq a ^ an a) ∧ (∀ w, w < an a → I (r + 1) w = nI (alk a w)) ∧ (∀ w, w < an a → I (r + 2) w = nI (ard a w)) ∧ (∀ w, w < an a → I (r + 3) w = nI (hr (an a) (ard a) w)) ∧ (∀ w, w < an a → I (r + 4) w = vwi (avw a w)) ∧ (∃ o, Ordd (an a) (ard a) o ∧ ∀ i, i < an a → I (r + 5) i = nI (o i)) ∧ (∀ i, i < 8192 → byt (I (r + 7) i)) ∧ ∀ w, w < an a → akd a w = 0 → ∀ v, v < avw a w → I (r + 7) (1024 * w + v) = nI (atb a w v)
/-- its texts -/
def CT (I : HI) (T F : HR) (L : HL) (own : Nat → Nat) (r : Nat) (a : AN) : Prop := (∀ j, j ≤ 8 → own (r + j) ≠ 2 ∧ own (r + j) ≠ 3) ∧ (∀ w f, w < 8 → T (r + 6) w = some f → (f, 8, 0) ∈ L) ∧ ∀ w, w < an a → (akd a w ≠ 1 ∧ T (r + 6) w = none) ∨ (akd a w = 1 ∧ ∃ f, T (r + 6) w = some f ∧ Frep I F L own f (acd a w))
theorem CT.fr {I I' : HI} {T T' F F' : HR} {L L' : HL} {own : Nat → Nat} {r : Nat} {a : AN} (h : CT I T F L own r a) (hI : ∀ b i, own b = 2 → I' b i = I b i) (hT : ∀ w, w < 8 → T' (r + 6) w = T (r + 6) w) (hn : an a ≤ 8) (e : Ext F L F' L') : CT I' T' F' L' own r a := by
  obtain ⟨h1, h2, h3⟩ := h
  refine ⟨h1, fun w f hw hf => e.1 _ (h2 w f hw (by rw [← hT w hw]; exact hf)), fun w hw => ?_⟩
  rw [hT w (by omega)]
  rcases h3 w hw with h | ⟨h, f, h4, h5⟩
  · exact Or.inl h
  · exact Or.inr ⟨h, f, h4, h5.fr hI e⟩
/-- cells of the net at r -/
def nP (r : Nat) : Nat → Nat → Prop := fun a _ => r ≤ a ∧ a ≤ r + 8
theorem nP2 {I I' : HI} {own : Nat → Nat} {r : Nat} (ho : ∀ j, j ≤ 8 → own (r + j) ≠ 2 ∧ own (r + j) ≠ 3) (f : Fr (nP r) I I') : ∀ b i, own b = 2 → I' b i = I b i := by
  intro b i hb
  refine f b i (fun h => ?_)
  unfold nP at h
  have := (ho (b - r) (by omega)).1
  rw [show r + (b - r) = b by omega] at this
  exact this hb
