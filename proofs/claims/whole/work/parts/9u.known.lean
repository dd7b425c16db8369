/-! rules: the reference's words -/
def rlist : List (List Nat) := [[119, 101, 97, 114, 101, 114], [112, 97, 115, 115], [103, 117, 101, 115, 115], [97, 110, 100], [111, 114], [110, 111, 116], [109, 101], [110], [113], [115, 101, 101, 115], [104, 101, 97, 114, 115], [115, 101, 101, 110], [104, 101, 97, 114, 100]]
def rwd (k : Nat) : List Nat := rlist.getD k []
def kmap (k : Nat) : Int32 := if k = 141 then 0 else if k = 142 then 1 else if k = 143 then 2 else if k = 152 then 3 else if k = 153 then 4 else if k = 151 then 5 else if 144 ≤ k ∧ k ≤ 150 then nI (k - 138) else -1
def rfd (x : List Nat) : List (List Nat) → Nat → Int32
  | [], _ => -1
  | w :: r, k => if x = w then nI k else rfd x r (k + 1)
theorem kw_map (x : List Nat) : kmap (wfd x wlist 141) = rfd x rlist 0 := by
  by_cases h0 : x = [119, 101, 97, 114, 101, 114]; subst h0; decide
  by_cases h1 : x = [112, 97, 115, 115]; subst h1; decide
  by_cases h2 : x = [103, 117, 101, 115, 115]; subst h2; decide
  by_cases h3 : x = [97, 110, 100]; subst h3; decide
  by_cases h4 : x = [111, 114]; subst h4; decide
  by_cases h5 : x = [110, 111, 116]; subst h5; decide
  by_cases h6 : x = [109, 101]; subst h6; decide
  by_cases h7 : x = [110]; subst h7; decide
  by_cases h8 : x = [113]; subst h8; decide
  by_cases h9 : x = [115, 101, 101, 115]; subst h9; decide
  by_cases h10 : x = [104, 101, 97, 114, 115]; subst h10; decide
  by_cases h11 : x = [115, 101, 101, 110]; subst h11; decide
  by_cases h12 : x = [104, 101, 97, 114, 100]; subst h12; decide
  simp only [wfd, rfd, wlist, rlist, if_neg h0, if_neg h1, if_neg h2, if_neg h3, if_neg h4, if_neg h5, if_neg h6, if_neg h7, if_neg h8, if_neg h9, if_neg h10, if_neg h11, if_neg h12]
  decide
theorem rfd_no {x : List Nat} : ∀ (ws : List (List Nat)) (k : Nat), (∀ w ∈ ws, x ≠ w) → rfd x ws k = -1
  | [], _, _ => rfl
  | w :: r, k, h => by
    simp only [rfd]
    rw [if_neg (h w List.mem_cons_self)]
    exact rfd_no r (k + 1) (fun v hv => h v (List.mem_cons_of_mem _ hv))
theorem rfd_long {x : List Nat} (h : 6 < x.length) : rfd x rlist 0 = -1 := rfd_no _ _ (fun w hw e => by
  have : ∀ w ∈ rlist, w.length ≤ 6 := by decide
  have := this w hw
  rw [e] at h; omega)
def pkl (w : List Nat) : Nat := w.foldl (fun a c => 32 * a + (c - 96)) 0
theorem pkl_ltr (t : Nat → Nat) (s : Nat) : ∀ d k, (ltr t d (s + k)).foldl (fun a c => 32 * a + (c - 96)) (pkw t s k) = pkw t s (k + d)
  | 0, k => rfl
  | d + 1, k => by
    simp only [ltr, List.foldl_cons]
    have := pkl_ltr t s d (k + 1)
    rw [show k + (d + 1) = k + 1 + d by omega, ← this]
    rfl
def rpk : List Nat → Nat
  | [] => 0
  | c :: r => 32 * rpk r + (c - 96)
theorem rpk_inj : ∀ (x y : List Nat), (∀ c ∈ x, isLt c = true) → (∀ c ∈ y, isLt c = true) → rpk x = rpk y → x = y
  | [], [], _, _, _ => rfl
  | [], c :: y, _, hy, h => by
    have := hy c List.mem_cons_self
    unfold isLt at this
    simp only [Bool.and_eq_true, decide_eq_true_eq] at this
    simp only [rpk] at h
    omega
  | c :: x, [], hx, _, h => by
    have := hx c List.mem_cons_self
    unfold isLt at this
    simp only [Bool.and_eq_true, decide_eq_true_eq] at this
    simp only [rpk] at h
    omega
  | c :: x, e :: y, hx, hy, h => by
    have h1 := hx c List.mem_cons_self
    have h2 := hy e List.mem_cons_self
    unfold isLt at h1 h2
    simp only [Bool.and_eq_true, decide_eq_true_eq] at h1 h2
    simp only [rpk] at h
    have h3 : rpk x = rpk y := by omega
    have h4 : c = e := by omega
    rw [h4, rpk_inj x y (fun c hc => hx c (List.mem_cons_of_mem _ hc)) (fun c hc => hy c (List.mem_cons_of_mem _ hc)) h3]
theorem pkl_rpk (w : List Nat) : pkl w = rpk w.reverse := by
  unfold pkl
  rw [List.foldl_eq_foldr_reverse]
  generalize w.reverse = v
  induction v with
  | nil => rfl
  | cons c r ih => simp only [List.foldr_cons, rpk, ih]
theorem pkl_inj {x y : List Nat} (hx : ∀ c ∈ x, isLt c = true) (hy : ∀ c ∈ y, isLt c = true) (h : pkl x = pkl y) : x = y := by
  rw [pkl_rpk, pkl_rpk] at h
  have := rpk_inj x.reverse y.reverse (fun c hc => hx c (List.mem_reverse.mp hc)) (fun c hc => hy c (List.mem_reverse.mp hc)) h
  exact List.reverse_inj.mp this
theorem ltr_mem {t : Nat → Nat} {c : Nat} : ∀ {d s : Nat}, c ∈ ltr t d s → ∃ j, j < d ∧ c = t (s + j)
  | 0, s, h => by simp [ltr] at h
  | d + 1, s, h => by
    simp only [ltr, List.mem_cons] at h
    rcases h with h | h
    · exact ⟨0, by omega, h⟩
    · obtain ⟨j, h1, h2⟩ := ltr_mem h
      exact ⟨j + 1, by omega, by rw [h2]; congr 1; omega⟩
theorem ltr_len {t : Nat → Nat} : ∀ (d s : Nat), (ltr t d s).length = d
  | 0, s => rfl
  | d + 1, s => by simp only [ltr, List.length_cons, ltr_len d]
theorem rwd_ok : ∀ k, k < 13 → pkl (rwd k) < 2 ^ 40 ∧ ∀ c ∈ rwd k, isLt c = true := by decide +kernel
theorem M_letters_k {k : Nat} (hk : k < 13) {Q : Int64 → Prop} (h : Q (nL (pkl (rwd k)))) : M_letters (nI k) Q := by
  have hc : k = 0 ∨ k = 1 ∨ k = 2 ∨ k = 3 ∨ k = 4 ∨ k = 5 ∨ k = 6 ∨ k = 7 ∨ k = 8 ∨ k = 9 ∨ k = 10 ∨ k = 11 ∨ k = 12 := by omega
  rcases hc with h1 | h1 | h1 | h1 | h1 | h1 | h1 | h1 | h1 | h1 | h1 | h1 | h1 <;> subst h1 <;> (simp (decide := true) only [M_letters, M_spelled, M_spelled_b23, M_spelled_b39, M_spelled_b55, M_spelled_b73, if_true, if_false, ite_true, ite_false]; exact Eq.mpr (congrArg Q (by decide +kernel)) h)
