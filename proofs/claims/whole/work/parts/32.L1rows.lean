/-! two regions of one heap: the class's (with the law's long[1]) and the reference's -/
def hW2 (D : va_G) (cA : Nat → ClassId) (zC zM : Nat) (SC SM : HS) (A : Nat → Prop) (s : State) (H : Heap) (locs : List Loc) : Prop :=
  hW D cA zC EvC SC A s H locs ∧ hW D cA zM Ev0 SM A s H locs ∧ ∀ p ∈ SC.2.2.2.2, ∀ q ∈ SM.2.2.2.2, zC + p.1 ≠ zM + q.1
theorem hW_other {D : va_G} {cA : Nat → ClassId} {z : Nat} {Ev : HE} {S : HS} {A A1 : Nat → Prop} {s : State} {H H1 : Heap} {locs locs1 : List Loc} (w : hW D cA z Ev S A s H locs) (hk : ∀ q : Nat, q < H.size → ¬ A1 q → H1[q]? = H[q]?) (hd : ∀ p ∈ S.2.2.2.2, ¬ A1 (z + p.1)) (hS : va_S A s.heap H1 locs1) : hW D cA z Ev S A s H1 locs1 := by
  refine ⟨w.1, w.2.1.kept (fun k x hx => ?_), w.2.2.1, hS, w.2.2.2.2⟩
  obtain ⟨p, hp, rfl⟩ := hws_of hx
  exact hk _ ((w.2.1 k _ hx).lt) (hd p (List.mem_of_getElem? hp))
section
variable {p : Program} {l : Launch} {e : Env} {R : Room} {s : State} {m : MethodId} {args : Array Value} {below : List Frame} {meth : Method} {c : Code} {H : Heap} {locs : List Loc} {cells slots mc ms : Nat} {Q : State → Prop}
variable {pc : Nat} {ls : Array Slot} {rest st0 : List Value} {D : va_G} {cA : Nat → ClassId} {zC zM : Nat} {SC SM : HS} {A : Nat → Prop}
theorem hl_backC {u : HS} {t : State} {H1 : Heap} {locs1 : List Loc} (w : hW2 D cA zC zM SC SM A s H locs) (ht : t.heap = H1) (hvm : s.vm.Alike t.vm) (hb : hB D cA zC (hA zC SC.2.2.2.2 H.size) u t) (hk : ∀ q : Nat, q < H.size → ¬ hA zC SC.2.2.2.2 H.size q → H1[q]? = H[q]?) (hS : va_S A s.heap H1 locs1) : hW2 D cA zC zM u SM A s H1 locs1 := by
  have hno : ∀ q ∈ SM.2.2.2.2, ¬ hA zC SC.2.2.2.2 H.size (zM + q.1) := by
    intro q hq h
    rcases h with ⟨p, hp, he⟩ | h
    · exact w.2.2 p hp q hq he.symm
    · exact absurd (hW_lt w.2.1 q hq) (Nat.not_lt.mpr h)
  refine ⟨hW_back w.1 ht hvm hb hS, hW_other w.2.1 hk hno hS, fun p hp q hq he => ?_⟩
  obtain ⟨i, hi⟩ := List.getElem?_of_mem hp
  have h1 := hb.2.2.2 i _ (hws_get (cA := cA) (z := zC) hi)
  exact hno q hq (by rw [← he]; exact h1)
theorem hl_backM {u : HS} {t : State} {H1 : Heap} {locs1 : List Loc} (w : hW2 D cA zC zM SC SM A s H locs) (ht : t.heap = H1) (hvm : s.vm.Alike t.vm) (hb : hB D cA zM (hA zM SM.2.2.2.2 H.size) u t) (hk : ∀ q : Nat, q < H.size → ¬ hA zM SM.2.2.2.2 H.size q → H1[q]? = H[q]?) (hS : va_S A s.heap H1 locs1) : hW2 D cA zC zM SC u A s H1 locs1 := by
  have hno : ∀ q ∈ SC.2.2.2.2, ¬ hA zM SM.2.2.2.2 H.size (zC + q.1) := by
    intro q hq h
    rcases h with ⟨p, hp, he⟩ | h
    · exact w.2.2 q hq p hp he
    · exact absurd (hW_lt w.1 q hq) (Nat.not_lt.mpr h)
  refine ⟨hW_other w.1 hk hno hS, hW_back w.2.1 ht hvm hb hS, fun p hp q hq he => ?_⟩
  obtain ⟨i, hi⟩ := List.getElem?_of_mem hq
  have h1 := hb.2.2.2 i _ (hws_get (cA := cA) (z := zM) hi)
  exact hno p hp (by rw [he]; exact h1)
theorem hl_calliC {post : Int32 → HS → Prop} {a : Array Value} (w : hW2 D cA zC zM SC SM A s H locs) (hr : va_Run p l e R s m args below meth c H locs cells slots mc ms (F0 m pc ls st0) rest (va_Qi post (hB D cA zC (hA zC SC.2.2.2.2 H.size)) (hA zC SC.2.2.2.2 H.size) a) (hA zC SC.2.2.2.2 H.size))
    (kk : ∀ (r : Int32) (u : HS) (H : Heap) (locs : List Loc), post r u → hW2 D cA zC zM u SM A s H locs → W p l e R s m args below meth c H locs (cells + mc) (slots + ms) Q (F0 m (pc + 3) ls (.int r :: rest))) : W p l e R s m args below meth c H locs cells slots Q (F0 m pc ls st0) :=
  va_calli hr w.1.2.2.2.1 (fun q _ h => hA_sub w.1.2.2.1 w.1.2.2.2.1 w.1.2.2.2.2.1 q h) (hA_sub w.1.2.2.1 w.1.2.2.2.1 w.1.2.2.2.2.1) (fun r u t H1 locs1 ht hvm hp hb _ hk hS => kk r u H1 locs1 hp (hl_backC w ht hvm hb hk hS))
theorem hl_calliM {post : Int32 → HS → Prop} {a : Array Value} (w : hW2 D cA zC zM SC SM A s H locs) (hr : va_Run p l e R s m args below meth c H locs cells slots mc ms (F0 m pc ls st0) rest (va_Qi post (hB D cA zM (hA zM SM.2.2.2.2 H.size)) (hA zM SM.2.2.2.2 H.size) a) (hA zM SM.2.2.2.2 H.size))
    (kk : ∀ (r : Int32) (u : HS) (H : Heap) (locs : List Loc), post r u → hW2 D cA zC zM SC u A s H locs → W p l e R s m args below meth c H locs (cells + mc) (slots + ms) Q (F0 m (pc + 3) ls (.int r :: rest))) : W p l e R s m args below meth c H locs cells slots Q (F0 m pc ls st0) :=
  va_calli hr w.2.1.2.2.2.1 (fun q _ h => hA_sub w.2.1.2.2.1 w.2.1.2.2.2.1 w.2.1.2.2.2.2.1 q h) (hA_sub w.2.1.2.2.1 w.2.1.2.2.2.1 w.2.1.2.2.2.2.1) (fun r u t H1 locs1 ht hvm hp hb _ hk hS => kk r u H1 locs1 hp (hl_backM w ht hvm hb hk hS))
theorem hl_calllM {post : Int64 → HS → Prop} {a : Array Value} (w : hW2 D cA zC zM SC SM A s H locs) (hr : va_Run p l e R s m args below meth c H locs cells slots mc ms (F0 m pc ls st0) rest (va_Ql post (hB D cA zM (hA zM SM.2.2.2.2 H.size)) (hA zM SM.2.2.2.2 H.size) a) (hA zM SM.2.2.2.2 H.size))
    (kk : ∀ (r : Int64) (u : HS) (H : Heap) (locs : List Loc), post r u → hW2 D cA zC zM SC u A s H locs → W p l e R s m args below meth c H locs (cells + mc) (slots + ms) Q (F0 m (pc + 3) ls (.long r :: rest))) : W p l e R s m args below meth c H locs cells slots Q (F0 m pc ls st0) :=
  va_calll hr w.2.1.2.2.2.1 (fun q _ h => hA_sub w.2.1.2.2.1 w.2.1.2.2.2.1 w.2.1.2.2.2.2.1 q h) (hA_sub w.2.1.2.2.1 w.2.1.2.2.2.1 w.2.1.2.2.2.2.1) (fun r u t H1 locs1 ht hvm hp hb _ hk hS => kk r u H1 locs1 hp (hl_backM w ht hvm hb hk hS))
theorem hl_cmp_eq {a b : Int64} (h : a = b) : lg_cmp a b = 0 := by subst h; simp [lg_cmp]
end
def St_hall (x1 : Int32) (x2 : Int32) (I : HI) (J : HJ) (T F : HR) (L : HL) (ro : Nat) (IM : HI) (JM : HJ) (K : HS → HI → HJ → Prop) : Prop :=
  H_hall I T L x1 x2 (fun ra I2 T2 => M_hall IM x1 x2 (fun rb IM2 => ra = rb ∧ K (I2, J, T2, F, L) IM2 JM))
def St_looks (x1 : Int32) (x2 : Int32) (I : HI) (J : HJ) (T F : HR) (L : HL) (ro : Nat) (IM : HI) (JM : HJ) (K : HS → HI → HJ → Prop) : Prop :=
  L_looks I J T F L x1 x2 ro (fun rk u => (ro, 4, 1) ∈ u.2.2.2.2 ∧ M_looks IM x1 x2 (fun rb IM2 => M_thrown IM2 (fun rt => rt = rk ∧ (rk = 0 → u.2.1 ro 0 = (if rb = 0 then 0 else 1)) ∧ K u IM2 JM)))
def St_round (x1 : Int32) (x2 : Int32) (I : HI) (J : HJ) (T F : HR) (L : HL) (ro : Nat) (IM : HI) (JM : HJ) (K : HS → HI → HJ → Prop) : Prop :=
  L_round I J T F L x1 x2 ro (fun rk u => (ro, 4, 1) ∈ u.2.2.2.2 ∧ M_round IM x1 x2 (fun rb IM2 => M_thrown IM2 (fun rt => rt = rk ∧ (rk = 0 → u.2.1 ro 0 = (if rb = 0 then 0 else 1)) ∧ K u IM2 JM)))
def St_heap (x1 : Int32) (x2 : Int32) (I : HI) (J : HJ) (T F : HR) (L : HL) (ro : Nat) (IM : HI) (JM : HJ) (K : HS → HI → HJ → Prop) : Prop :=
  H_heap I x1 x2 (fun ra I2 => M_heap IM x1 x2 (fun rb IM2 => ra = rb ∧ K (I2, J, T, F, L) IM2 JM))
def St_law (x1 : Int32) (x2 : Int32) (I : HI) (J : HJ) (T F : HR) (L : HL) (ro : Nat) (IM : HI) (JM : HJ) (K : HS → HI → HJ → Prop) : Prop :=
  H_law I x1 x2 (fun ra I2 => M_law IM x1 x2 (fun rb IM2 => ra = rb ∧ K (I2, J, T, F, L) IM2 JM))
def St_feed (x1 : Int32) (x2 : Int32) (x3 : Int32) (x4 : Int32) (x5 : Int32) (I : HI) (J : HJ) (T F : HR) (L : HL) (ro : Nat) (IM : HI) (JM : HJ) (K : HS → HI → HJ → Prop) : Prop :=
  H_feed I x1 x2 x3 x4 x5 (fun ra I2 => M_feed IM x1 x2 x3 x4 x5 (fun rb IM2 => ra = rb ∧ K (I2, J, T, F, L) IM2 JM))
def St_rules (x1 : Int32) (I : HI) (J : HJ) (T F : HR) (L : HL) (ro : Nat) (IM : HI) (JM : HJ) (K : HS → HI → HJ → Prop) : Prop :=
  L_rules I J T F L x1 ro 2080 (fun rk u => (ro, 4, 1) ∈ u.2.2.2.2 ∧ M_rules IM JM x1 (fun rb IM2 JM2 => M_thrown IM2 (fun rt => rt = rk ∧ (rk = 0 → u.2.1 ro 0 = Int32.toInt64 rb) ∧ K u IM2 JM2)))
def St_fault (I : HI) (J : HJ) (T F : HR) (L : HL) (ro : Nat) (IM : HI) (JM : HJ) (K : HS → HI → HJ → Prop) : Prop :=
  H_fault I (fun ra  => M_fault IM (fun rb IM2 => ra = rb ∧ K (I, J, T, F, L) IM2 JM))
def St_about (x1 : Int32) (x2 : Int32) (I : HI) (J : HJ) (T F : HR) (L : HL) (ro : Nat) (IM : HI) (JM : HJ) (K : HS → HI → HJ → Prop) : Prop :=
  L_about I J T F L x1 x2 ro (fun rk u => (ro, 4, 1) ∈ u.2.2.2.2 ∧ M_about IM x1 x2 (fun rb IM2 => M_thrown IM2 (fun rt => rt = rk ∧ (rk = 0 → u.2.1 ro 0 = Int32.toInt64 rb) ∧ K u IM2 JM)))
def St_tell (x1 : Int32) (x2 : Int32) (x3 : Int32) (I : HI) (J : HJ) (T F : HR) (L : HL) (ro : Nat) (IM : HI) (JM : HJ) (K : HS → HI → HJ → Prop) : Prop :=
  L_tell I J T F L x1 x2 x3 ro (fun rk u => (ro, 4, 1) ∈ u.2.2.2.2 ∧ M_tell IM x1 x2 x3 (fun rb IM2 => M_thrown IM2 (fun rt => rt = rk ∧ (rk = 0 → u.2.1 ro 0 = (if rb = 0 then 0 else 1)) ∧ K u IM2 JM)))
def St_cell (x1 : Int32) (x2 : Int32) (I : HI) (J : HJ) (T F : HR) (L : HL) (ro : Nat) (IM : HI) (JM : HJ) (K : HS → HI → HJ → Prop) : Prop :=
  L_cell I J T F L x1 x2 ro (fun rk u => (ro, 4, 1) ∈ u.2.2.2.2 ∧ M_cell IM x1 x2 (fun rb IM2 => M_thrown IM2 (fun rt => rt = rk ∧ (rk = 0 → u.2.1 ro 0 = Int32.toInt64 rb) ∧ K u IM2 JM)))
def St_in (x1 : Int32) (x2 : Int32) (x3 : Int32) (I : HI) (J : HJ) (T F : HR) (L : HL) (ro : Nat) (IM : HI) (JM : HJ) (K : HS → HI → HJ → Prop) : Prop :=
  L_in I J T F L x1 x2 x3 ro (fun rk u => (ro, 4, 1) ∈ u.2.2.2.2 ∧ M_in IM x1 x2 x3 (fun rb IM2 => M_thrown IM2 (fun rt => rt = rk ∧ (rk = 0 → u.2.1 ro 0 = Int32.toInt64 rb) ∧ K u IM2 JM)))
def St_row (x1 : Int32) (x2 : Int32) (I : HI) (J : HJ) (T F : HR) (L : HL) (ro : Nat) (IM : HI) (JM : HJ) (K : HS → HI → HJ → Prop) : Prop :=
  L_row I J T F L x1 x2 ro (fun rk u => (ro, 4, 1) ∈ u.2.2.2.2 ∧ M_row IM x1 x2 (fun rb IM2 => M_thrown IM2 (fun rt => rt = rk ∧ (rk = 0 → u.2.1 ro 0 = Int32.toInt64 rb) ∧ K u IM2 JM)))
def St_won (x1 : Int32) (I : HI) (J : HJ) (T F : HR) (L : HL) (ro : Nat) (IM : HI) (JM : HJ) (K : HS → HI → HJ → Prop) : Prop :=
  L_won I J T F L x1 ro (fun rk u => (ro, 4, 1) ∈ u.2.2.2.2 ∧ M_won IM x1 (fun rb IM2 => M_thrown IM2 (fun rt => rt = rk ∧ (rk = 0 → u.2.1 ro 0 = rb) ∧ K u IM2 JM)))
def St_beaten (x1 : Int32) (I : HI) (J : HJ) (T F : HR) (L : HL) (ro : Nat) (IM : HI) (JM : HJ) (K : HS → HI → HJ → Prop) : Prop :=
  H_beaten I T F L x1 (fun ra I2 => M_beaten IM x1 (fun rb IM2 => ra = rb ∧ K (I2, J, T, F, L) IM2 JM))
def St_tally (x1 : Int32) (I : HI) (J : HJ) (T F : HR) (L : HL) (ro : Nat) (IM : HI) (JM : HJ) (K : HS → HI → HJ → Prop) : Prop :=
  H_tally I T F L x1 (fun ra I2 => M_tally IM x1 (fun rb IM2 => ra = rb ∧ K (I2, J, T, F, L) IM2 JM))
def St_rightOf (x1 : Int32) (I : HI) (J : HJ) (T F : HR) (L : HL) (ro : Nat) (IM : HI) (JM : HJ) (K : HS → HI → HJ → Prop) : Prop :=
  L_rightOf I J T F L x1 ro (fun rk u => (ro, 4, 1) ∈ u.2.2.2.2 ∧ M_rightOf IM x1 (fun rb IM2 => M_thrown IM2 (fun rt => rt = rk ∧ (rk = 0 → u.2.1 ro 0 = Int32.toInt64 rb) ∧ K u IM2 JM)))
def St_worst (x1 : Int32) (I : HI) (J : HJ) (T F : HR) (L : HL) (ro : Nat) (IM : HI) (JM : HJ) (K : HS → HI → HJ → Prop) : Prop :=
  L_worst I J T F L x1 ro (fun rk u => (ro, 4, 1) ∈ u.2.2.2.2 ∧ M_worst IM x1 (fun rb IM2 => M_thrown IM2 (fun rt => rt = rk ∧ (rk = 0 → u.2.1 ro 0 = Int32.toInt64 rb) ∧ K u IM2 JM)))
def St_idle (x1 : Int32) (I : HI) (J : HJ) (T F : HR) (L : HL) (ro : Nat) (IM : HI) (JM : HJ) (K : HS → HI → HJ → Prop) : Prop :=
  L_idle I J T F L x1 ro (fun rk u => (ro, 4, 1) ∈ u.2.2.2.2 ∧ M_idle IM x1 (fun rb IM2 => M_thrown IM2 (fun rt => rt = rk ∧ (rk = 0 → u.2.1 ro 0 = Int32.toInt64 rb) ∧ K u IM2 JM)))
def St_otherwise (x1 : Int32) (x2 : Int32) (I : HI) (J : HJ) (T F : HR) (L : HL) (ro : Nat) (IM : HI) (JM : HJ) (K : HS → HI → HJ → Prop) : Prop :=
  L_otherwise I J T F L x1 x2 ro (fun rk u => (ro, 4, 1) ∈ u.2.2.2.2 ∧ M_otherwise IM x1 x2 (fun rb IM2 => M_thrown IM2 (fun rt => rt = rk ∧ (rk = 0 → u.2.1 ro 0 = Int32.toInt64 rb) ∧ K u IM2 JM)))
def St_alike (I : HI) (J : HJ) (T F : HR) (L : HL) (ro : Nat) (IM : HI) (JM : HJ) (K : HS → HI → HJ → Prop) : Prop :=
  H_alike I (fun ra I2 => M_alike IM (fun rb IM2 => ra = rb ∧ K (I2, J, T, F, L) IM2 JM))
def St_ring (I : HI) (J : HJ) (T F : HR) (L : HL) (ro : Nat) (IM : HI) (JM : HJ) (K : HS → HI → HJ → Prop) : Prop :=
  H_ring I (fun ra  => M_ring IM (fun rb IM2 => ra = rb ∧ K (I, J, T, F, L) IM2 JM))
def St_search (x1 : Int32) (I : HI) (J : HJ) (T F : HR) (L : HL) (ro : Nat) (IM : HI) (JM : HJ) (K : HS → HI → HJ → Prop) : Prop :=
  L_search I J T F L x1 ro (fun rk u => (ro, 4, 1) ∈ u.2.2.2.2 ∧ M_search IM x1 (fun rb IM2 => M_thrown IM2 (fun rt => rt = rk ∧ (rk = 0 → u.2.1 ro 0 = Int32.toInt64 rb) ∧ K u IM2 JM)))
def St_steps (I : HI) (J : HJ) (T F : HR) (L : HL) (ro : Nat) (IM : HI) (JM : HJ) (K : HS → HI → HJ → Prop) : Prop :=
  H_steps I (fun ra  => M_steps IM (fun rb IM2 => ra = rb ∧ K (I, J, T, F, L) IM2 JM))
def St_sums (I : HI) (J : HJ) (T F : HR) (L : HL) (ro : Nat) (IM : HI) (JM : HJ) (K : HS → HI → HJ → Prop) : Prop :=
  L_sums I J T F L ro (fun rk u => (ro, 4, 1) ∈ u.2.2.2.2 ∧ M_sums IM (fun rb IM2 => M_thrown IM2 (fun rt => rt = rk ∧ (rk = 0 → u.2.1 ro 0 = Int32.toInt64 rb) ∧ K u IM2 JM)))
def St_constant (x1 : Int32) (I : HI) (J : HJ) (T F : HR) (L : HL) (ro : Nat) (IM : HI) (JM : HJ) (K : HS → HI → HJ → Prop) : Prop :=
  L_constant I J T F L x1 ro (fun rk u => (ro, 4, 1) ∈ u.2.2.2.2 ∧ M_constant IM x1 (fun rb IM2 => M_thrown IM2 (fun rt => rt = rk ∧ (rk = 0 → u.2.1 ro 0 = Int32.toInt64 rb) ∧ K u IM2 JM)))
def St_cover (I : HI) (J : HJ) (T F : HR) (L : HL) (ro : Nat) (IM : HI) (JM : HJ) (K : HS → HI → HJ → Prop) : Prop :=
  H_cover I T L (fun ra I2 T2 => M_cover IM (fun rb IM2 => ra = rb ∧ K (I2, J, T2, F, L) IM2 JM))
def St_given (x1 : Int32) (I : HI) (J : HJ) (T F : HR) (L : HL) (ro : Nat) (IM : HI) (JM : HJ) (K : HS → HI → HJ → Prop) : Prop :=
  L_given I J T F L x1 ro (fun rk u => (ro, 4, 1) ∈ u.2.2.2.2 ∧ M_given IM x1 (fun rb IM2 => M_thrown IM2 (fun rt => rt = rk ∧ (rk = 0 → u.2.1 ro 0 = Int32.toInt64 rb) ∧ K u IM2 JM)))
def St_line (I : HI) (J : HJ) (T F : HR) (L : HL) (ro : Nat) (IM : HI) (JM : HJ) (K : HS → HI → HJ → Prop) : Prop :=
  H_line I T F L (fun ra I2 T2 F2 L2 => M_line IM (fun rb IM2 => ra = rb ∧ K (I2, J, T2, F2, L2) IM2 JM))
def St_mend (x1 : Int32) (I : HI) (J : HJ) (T F : HR) (L : HL) (ro : Nat) (IM : HI) (JM : HJ) (K : HS → HI → HJ → Prop) : Prop :=
  L_mend I J T F L x1 ro (fun rk u => (ro, 4, 1) ∈ u.2.2.2.2 ∧ M_mend IM x1 (fun rb IM2 => M_thrown IM2 (fun rt => rt = rk ∧ (rk = 0 → u.2.1 ro 0 = Int32.toInt64 rb) ∧ K u IM2 JM)))
def St_draw (x1 : Int32) (I : HI) (J : HJ) (T F : HR) (L : HL) (ro : Nat) (IM : HI) (JM : HJ) (K : HS → HI → HJ → Prop) : Prop :=
  H_draw I T x1 (fun ra I2 => M_draw IM x1 (fun rb IM2 => ra = rb ∧ K (I2, J, T, F, L) IM2 JM))
def St_keep (x1 : Int32) (I : HI) (J : HJ) (T F : HR) (L : HL) (ro : Nat) (IM : HI) (JM : HJ) (K : HS → HI → HJ → Prop) : Prop :=
  H_keep I T F L x1 (fun ra I2 T2 F2 L2 => M_keep IM x1 (fun rb IM2 => ra = rb ∧ K (I2, J, T2, F2, L2) IM2 JM))
def St_take (x1 : Int32) (I : HI) (J : HJ) (T F : HR) (L : HL) (ro : Nat) (IM : HI) (JM : HJ) (K : HS → HI → HJ → Prop) : Prop :=
  H_take I T F L x1 (fun ra I2 T2 => M_take IM x1 (fun rb IM2 => ra = rb ∧ K (I2, J, T2, F, L) IM2 JM))
def St_count (x1 : Int32) (I : HI) (J : HJ) (T F : HR) (L : HL) (ro : Nat) (IM : HI) (JM : HJ) (K : HS → HI → HJ → Prop) : Prop :=
  L_count I J T F L x1 ro (fun rk u => (ro, 4, 1) ∈ u.2.2.2.2 ∧ M_count IM x1 (fun rb IM2 => M_thrown IM2 (fun rt => rt = rk ∧ (rk = 0 → u.2.1 ro 0 = Int32.toInt64 rb) ∧ K u IM2 JM)))
