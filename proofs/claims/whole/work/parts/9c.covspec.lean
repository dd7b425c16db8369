/-! cover: both sides' seeking, in numbers -/
def nrN (n r : Nat) : Nat := cum (fun w v => v ||| 2 ^ (r ^^^ 2 ^ w)) (2 ^ r) n
def gnN (n r : Nat) : Nat := cum (fun w v => if v < r ^^^ 2 ^ w then r ^^^ 2 ^ w else v) r n
def lstN (n m l0 : Nat) : Nat := cum (fun r v => if m.testBit r then (if gnN n r < v then gnN n r else v) else v) l0 (2 ^ n)
def allN (n : Nat) : Nat := 2 ^ 2 ^ n - 1
def outN (m b : Nat) : Nat := m &&& (b ^^^ 4294967295)
/-- the class's choosing -/
def chN (n many : Nat) : Nat → Nat → Nat → Nat → Option (List Nat)
  | 0, _, _, _ => none
  | d + 1, depth, prev, m => if m = 0 then some [] else if many ≤ depth then none else if (many - depth) * (n + 1) < pop32 m then none else
      (List.range' (prev + 1) (lstN n m (2 ^ n - 1) - prev)).findSome? (fun row => (chN n many d (depth + 1) row (outN m (nrN n row))).map (fun l => row :: l))
/-- the reference's: the rows tried (each and 1 more) and what they cover, the latest first -/
def rfN (n k : Nat) : Nat → List (Nat × Nat) → Option (Option (List Nat))
  | 0, _ => none
  | _ + 1, [] => some none
  | d + 1, (h, c) :: sk =>
    if outN (allN n) c = 0 then some (some (sk.map (fun p => p.1 - 1)).reverse) else
      if sk.length < k ∧ pop32 (outN (allN n) c) ≤ (k - sk.length) * (n + 1) ∧ h ≤ lstN n (outN (allN n) c) 31 then rfN n k d ((h + 1, c ||| nrN n h) :: (h + 1, c) :: sk) else rfN n k d sk
def chB (n : Nat) : Bool := (List.range ((cov n).length - 1)).all (fun m => chN n (m + 1) 8 1 0 (outN (allN n) (nrN n 0)) == none) && (chN n (cov n).length 8 1 0 (outN (allN n) (nrN n 0)) == some (cov n).tail)
theorem chB_k : ∀ n, n < 6 → 1 ≤ n → chB n = true := by decide +kernel
