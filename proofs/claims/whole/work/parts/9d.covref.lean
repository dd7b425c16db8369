/-! cover: what the reference's seeking comes to -/
def rfB (n : Nat) : Bool := (List.range ((cov n).length - 1)).all (fun k => rfN n (k + 1) 18000 [(0, 0)] == some none) && (rfN n (cov n).length 18000 [(0, 0)] == some (some (cov n)))
theorem rfB_4 : ∀ n, n < 5 → 1 ≤ n → rfB n = true := by decide +kernel
theorem rfB_5 : rfB 5 = true := by decide +kernel
