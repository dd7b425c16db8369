/-! alike: rows of all wearers -/
def swf (p : Nat → Nat) (i j : Nat) : Nat → Nat := fun k => if k = j then p i else if k = i then p j else p k
def fi (p : Nat → Nat) : Nat → Option Nat
  | 0 => none
  | i + 1 => if p i ≤ p (i + 1) then some i else fi p i
def fj (p : Nat → Nat) (i : Nat) : Nat → Nat
  | 0 => 0
  | j + 1 => if p i ≤ p (j + 1) then j + 1 else fj p i j
def rvf : Nat → (Nat → Nat) → Nat → Nat → (Nat → Nat)
  | 0, p, _, _ => p
  | d + 1, p, x, y => if y ≤ x then p else rvf d (swf p x y) (x + 1) (y - 1)
def nxf (n : Nat) (p : Nat → Nat) : Option (Nat → Nat) := match fi p (n - 1) with
  | none => none
  | some i => some (rvf 8 (swf p i (fj p i (n - 1))) (i + 1) (n - 1))
def toL (n : Nat) (p : Nat → Nat) : List Nat := (List.range n).map p
def nxL (n : Nat) (l : List Nat) : Option (List Nat) := (nxf n (fun i => l.getD i 0)).map (toL n)
def itL (n : Nat) : Nat → List Nat → List (List Nat)
  | 0, _ => []
  | e + 1, l => l :: match nxL n l with
    | none => []
    | some l' => itL n e l'
def endL (n : Nat) : Nat → List Nat → Bool
  | 0, _ => false
  | e + 1, l => match nxL n l with
    | none => true
    | some l' => endL n e l'
def usd (p : Nat → Nat) (w x : Nat) : Bool := (List.range w).any (fun j => p j == x)
def exL (n : Nat) : Nat → Nat → (Nat → Nat) → List (List Nat)
  | 0, _, p => [toL n p]
  | d + 1, w, p => (List.range n).flatMap (fun x => if usd p w x then [] else exL n d (w + 1) (upn p w x))
theorem itL_k : ∀ n, n < 7 → 1 ≤ n → itL n 720 (List.range n) = exL n n 0 (fun _ => 0) ∧ endL n 720 (List.range n) = true := by decide +kernel
