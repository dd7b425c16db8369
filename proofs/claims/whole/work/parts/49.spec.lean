/-! what a row of hats brings: hats, views, values of texts, guesses -/
def hat (a : AN) (r w : Nat) : Nat := r / aq a ^ w % aq a
/-- digits d of the places in m, each worth b times the one before -/
def dig (m b n : Nat) (d : Nat → Nat) (s : Nat × Nat) : Nat × Nat := cum (fun k s => if m.testBit k then (s.1 + d k * s.2, s.2 * b) else s) s n
def ahr (a : AN) (w : Nat) : Nat := hr (an a) (ard a) w
def view (a : AN) (h g : Nat → Nat) (w : Nat) : Nat := (dig (ahr a w) (aq a + 1) (an a) g (dig (alk a w) (aq a) (an a) h (0, 1))).1
def sumo (m n : Nat) (d : Nat → Nat) : Nat := cum (fun k s => if m.testBit k then s + d k else s) 0 n
def valo (a : AN) (h g : Nat → Nat) (w x : Nat) : Nat :=
  if x % 16 = 6 then w else if x % 16 = 7 then an a else if x % 16 = 8 then aq a else if x % 16 = 9 then (if (alk a w).testBit (x / 16) then h (x / 16) else 0) else if x % 16 = 10 then (if (ahr a w).testBit (x / 16) then g (x / 16) else 0) else if x % 16 = 11 then sumo (alk a w) (an a) h else sumo (ahr a w) (an a) g
def bin (o : Nat) (x y : Int32) : Int32 :=
  if o = 4 then (if ¬ x = 0 ∧ ¬ y = 0 then 1 else 0) else if o = 5 then (if ¬ x = 0 ∨ ¬ y = 0 then 1 else 0) else if o = 6 then (if x < y then 1 else 0) else if o = 7 then (if x = y then 1 else 0) else if o = 8 then x + y else if o = 9 then x - y else if o = 10 then x * y else (if y = 0 then 0 else x / y)
/-- the values that wait, the latest first, behind the items of a text -/
def evs (a : AN) (h g : Nat → Nat) (w : Nat) : AC → List Int32 → List Int32
  | [], s => s
  | (o, x) :: r, s => evs a h g w r (if o = 1 then nI x :: s else if o = 2 then nI (valo a h g w x) :: s else if o = 3 then (if s.headD 0 = 0 then 1 else 0) :: s.tail else bin o (s.tail.headD 0) (s.headD 0) :: s.tail.tail)
def ev (a : AN) (h g : Nat → Nat) (w : Nat) (c : AC) : Int32 := (evs a h g w c []).headD 0
def fmod (x : Int32) (q : Nat) : Nat := (x.toInt % (q : Int)).toNat
def gues (a : AN) (h g : Nat → Nat) (w : Nat) : Nat :=
  if akd a w = 2 then 0 else if akd a w = 0 then atb a w (view a h g w) else
    match (acd a w).1 with
    | some p => if ev a h g w p = 0 then fmod (ev a h g w (acd a w).2) (aq a) else aq a
    | none => fmod (ev a h g w (acd a w).2) (aq a)
/-- the guesses of those of the first ρ rounds -/
def gl (a : AN) (h : Nat → Nat) : Nat → Nat → Nat
  | 0 => fun _ => 0
  | ρ + 1 => fun w => if ard a w = ρ then gues a h (gl a h ρ) w else gl a h ρ w
def gs (a : AN) (h : Nat → Nat) (w : Nat) : Nat := gl a h 8 w
/-- what wearer w guesses hangs on those whom it hears alone -/
theorem dig_cong {m b n : Nat} {d d' : Nat → Nat} {s : Nat × Nat} (h : ∀ k, k < n → m.testBit k = true → d k = d' k) : dig m b n d s = dig m b n d' s := by
  unfold dig
  refine cum_cong n (fun k hk x => ?_)
  by_cases hb : m.testBit k = true
  · rw [h k hk hb]
  · rw [if_neg hb, if_neg hb]
theorem sumo_cong {m n : Nat} {d d' : Nat → Nat} (h : ∀ k, k < n → m.testBit k = true → d k = d' k) : sumo m n d = sumo m n d' := by
  unfold sumo
  refine cum_cong n (fun k hk x => ?_)
  by_cases hb : m.testBit k = true
  · rw [h k hk hb]
  · rw [if_neg hb, if_neg hb]
theorem ahr_bit (a : AN) (w k : Nat) : (ahr a w).testBit k = true ↔ k < an a ∧ ard a k < ard a w := by
  unfold ahr hr; rw [msk_bit]; simp
theorem alk_in {a : AN} (W : WF a) {w k : Nat} (hw : w < an a) (h : (alk a w).testBit k = true) : k < an a := by
  have h1 := (W.2.2.2.2.2 w hw).1
  by_cases hk : k < an a
  · exact hk
  · rw [tb_out h1 (by omega)] at h; cases h
theorem valo_cong {a : AN} {h h' g g' : Nat → Nat} {w x : Nat} (W : WF a) (hw : w < an a) (hh : ∀ k, k < an a → h k = h' k) (hg : ∀ k, k < an a → ard a k < ard a w → g k = g' k) : valo a h g w x = valo a h' g' w x := by
  unfold valo
  have e1 : (if (alk a w).testBit (x / 16) then h (x / 16) else 0) = if (alk a w).testBit (x / 16) then h' (x / 16) else 0 := by
    by_cases hb : (alk a w).testBit (x / 16) = true
    · rw [if_pos hb, if_pos hb, hh _ (alk_in W hw hb)]
    · rw [if_neg hb, if_neg hb]
  have e2 : (if (ahr a w).testBit (x / 16) then g (x / 16) else 0) = if (ahr a w).testBit (x / 16) then g' (x / 16) else 0 := by
    by_cases hb : (ahr a w).testBit (x / 16) = true
    · obtain ⟨h1, h2⟩ := (ahr_bit a w _).mp hb
      rw [if_pos hb, if_pos hb, hg _ h1 h2]
    · rw [if_neg hb, if_neg hb]
  rw [e1, e2, sumo_cong (fun k hk _ => hh k hk), sumo_cong (m := ahr a w) (d := g) (d' := g') (fun k hk hb => hg k hk ((ahr_bit a w k).mp hb).2)]
theorem evs_cong {a : AN} {h h' g g' : Nat → Nat} {w : Nat} (W : WF a) (hw : w < an a) (hh : ∀ k, k < an a → h k = h' k) (hg : ∀ k, k < an a → ard a k < ard a w → g k = g' k) : ∀ (c : AC) (s : List Int32), evs a h g w c s = evs a h' g' w c s
  | [], _ => rfl
  | (o, x) :: r, s => by unfold evs; rw [valo_cong W hw hh hg]; exact evs_cong W hw hh hg r _
theorem view_cong {a : AN} {h h' g g' : Nat → Nat} {w : Nat} (hh : ∀ k, k < an a → h k = h' k) (hg : ∀ k, k < an a → ard a k < ard a w → g k = g' k) : view a h g w = view a h' g' w := by
  unfold view
  rw [dig_cong (d := h) (d' := h') (fun k hk _ => hh k hk), dig_cong (m := ahr a w) (d := g) (d' := g') (fun k hk hb => hg k hk ((ahr_bit a w k).mp hb).2)]
theorem gues_cong {a : AN} {h h' g g' : Nat → Nat} {w : Nat} (W : WF a) (hw : w < an a) (hh : ∀ k, k < an a → h k = h' k) (hg : ∀ k, k < an a → ard a k < ard a w → g k = g' k) : gues a h g w = gues a h' g' w := by
  unfold gues ev
  rw [view_cong hh hg]
  have e : ∀ c, evs a h g w c [] = evs a h' g' w c [] := fun c => evs_cong W hw hh hg c []
  rw [e]
  cases hc : (acd a w).1 with
  | none => rfl
  | some p => dsimp only; rw [e p]
theorem gl_up {a : AN} {h : Nat → Nat} {w : Nat} : ∀ ρ, ard a w < ρ → gl a h ρ w = gl a h (ard a w + 1) w
  | 0, hρ => by omega
  | ρ + 1, hρ => by
    by_cases e : ard a w = ρ
    · rw [e]
    · show (if ard a w = ρ then _ else gl a h ρ w) = _
      rw [if_neg e]
      exact gl_up ρ (by omega)
/-- the guesses of a row are the ones that fit together -/
theorem gs_fix {a : AN} {h : Nat → Nat} {w : Nat} (W : WF a) (hw : w < an a) : gs a h w = gues a h (gs a h) w := by
  have h7 := (W.2.2.2.2.2 w hw).2.2.1
  unfold gs
  rw [gl_up 8 (by omega)]
  show (if ard a w = ard a w then gues a h (gl a h (ard a w)) w else _) = _
  rw [if_pos rfl]
  refine gues_cong W hw (fun _ _ => rfl) (fun k hk hr => ?_)
  have h7k := (W.2.2.2.2.2 k hk).2.2.1
  rw [gl_up (ard a w) hr, ← gl_up 8 (by omega)]
theorem gs_cong {a : AN} {h h' : Nat → Nat} (W : WF a) (hh : ∀ k, k < an a → h k = h' k) {w : Nat} (hw : w < an a) : gs a h w = gs a h' w := by
  have key : ∀ ρ w, w < an a → gl a h ρ w = gl a h' ρ w := by
    intro ρ
    induction ρ with
    | zero => intro w _; rfl
    | succ ρ ih =>
      intro w hw
      show (if ard a w = ρ then _ else _) = (if ard a w = ρ then _ else _)
      rw [ih w hw, gues_cong (g := gl a h ρ) (g' := gl a h' ρ) W hw hh (fun k hk _ => ih k hk)]
  exact key 8 w hw
def rts (a : AN) (h g : Nat → Nat) : Nat := msk (fun w => decide (g w = h w)) (an a)
def wrs (a : AN) (h g : Nat → Nat) : Nat := msk (fun w => decide (g w ≠ h w ∧ g w ≠ aq a)) (an a)
def rt (a : AN) (r : Nat) : Nat := rts a (hat a r) (gs a (hat a r))
def wr (a : AN) (r : Nat) : Nat := wrs a (hat a r) (gs a (hat a r))
/-- how many hats of a colour a row has; whether the heap can bring it -/
def many (a : AN) (r c : Nat) : Nat := cnt (fun w => decide (hat a r w = c)) (an a)
def cts (a : AN) (H : Nat → Nat) (r : Nat) : Bool := decide (∀ c, c < aq a → many a r c ≤ H c)
