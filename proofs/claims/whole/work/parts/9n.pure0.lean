/-! the start -/
theorem FM_hi (k : Nat) : FM 0 (k + 75) = none := rfl
theorem FM_up (b j : Nat) : FM (b + 1) j = none := rfl
theorem start_F0 : ∀ j, j < 75 → (up2 (up2 (up2 (up2 (up2 (up2 (up2 (up2 (up2 (up2 (up2 (up2 (up2 (up2 (up2 (up2 (up2 (up2 (up2 (up2 (up2 (up2 (up2 (up2 (up2 (up2 (up2 (up2 (up2 (up2 (up2 (up2 (up2 (up2 (up2 (up2 (up2 (up2 (up2 (up2 (up2 (up2 (up2 (up2 (up2 (up2 (up1 r0 0 (fun _ => none)) 0 6 (some 1)) 0 7 (some 2)) 0 8 (some 3)) 0 9 (some 4)) 0 10 (some 5)) 0 11 (some 6)) 0 12 (some 7)) 0 13 (some 8)) 0 14 (some 9)) 0 15 (some 10)) 0 31 (some 11)) 0 32 (some 12)) 0 33 (some 13)) 0 34 (some 14)) 0 35 (some 15)) 0 36 (some 16)) 0 37 (some 17)) 0 38 (some 18)) 0 39 (some 19)) 0 41 (some 20)) 0 42 (some 21)) 0 43 (some 22)) 0 44 (some 23)) 0 45 (some 24)) 0 46 (some 25)) 0 47 (some 26)) 0 48 (some 27)) 0 51 (some 28)) 0 52 (some 29)) 0 53 (some 30)) 0 55 (some 31)) 0 56 (some 32)) 0 57 (some 33)) 0 58 (some 34)) 0 59 (some 35)) 0 60 (some 36)) 0 61 (some 37)) 0 66 (some 38)) 0 67 (some 39)) 0 68 (some 40)) 0 69 (some 41)) 0 70 (some 42)) 0 71 (some 43)) 0 72 (some 44)) 0 73 (some 45)) 0 74 (some 46)) 0 j = FM 0 j := by decide +kernel
theorem start_F (b j : Nat) : (up2 (up2 (up2 (up2 (up2 (up2 (up2 (up2 (up2 (up2 (up2 (up2 (up2 (up2 (up2 (up2 (up2 (up2 (up2 (up2 (up2 (up2 (up2 (up2 (up2 (up2 (up2 (up2 (up2 (up2 (up2 (up2 (up2 (up2 (up2 (up2 (up2 (up2 (up2 (up2 (up2 (up2 (up2 (up2 (up2 (up2 (up1 r0 0 (fun _ => none)) 0 6 (some 1)) 0 7 (some 2)) 0 8 (some 3)) 0 9 (some 4)) 0 10 (some 5)) 0 11 (some 6)) 0 12 (some 7)) 0 13 (some 8)) 0 14 (some 9)) 0 15 (some 10)) 0 31 (some 11)) 0 32 (some 12)) 0 33 (some 13)) 0 34 (some 14)) 0 35 (some 15)) 0 36 (some 16)) 0 37 (some 17)) 0 38 (some 18)) 0 39 (some 19)) 0 41 (some 20)) 0 42 (some 21)) 0 43 (some 22)) 0 44 (some 23)) 0 45 (some 24)) 0 46 (some 25)) 0 47 (some 26)) 0 48 (some 27)) 0 51 (some 28)) 0 52 (some 29)) 0 53 (some 30)) 0 55 (some 31)) 0 56 (some 32)) 0 57 (some 33)) 0 58 (some 34)) 0 59 (some 35)) 0 60 (some 36)) 0 61 (some 37)) 0 66 (some 38)) 0 67 (some 39)) 0 68 (some 40)) 0 69 (some 41)) 0 70 (some 42)) 0 71 (some 43)) 0 72 (some 44)) 0 73 (some 45)) 0 74 (some 46)) b j = FM b j := by
  cases b with
  | zero =>
    by_cases h : j < 75
    · exact start_F0 j h
    · obtain ⟨k, rfl⟩ : ∃ k, j = k + 75 := ⟨j - 75, by omega⟩
      rw [FM_hi]
      rw [up2_idx _ _ _ (by omega), up2_idx _ _ _ (by omega), up2_idx _ _ _ (by omega), up2_idx _ _ _ (by omega), up2_idx _ _ _ (by omega), up2_idx _ _ _ (by omega), up2_idx _ _ _ (by omega), up2_idx _ _ _ (by omega), up2_idx _ _ _ (by omega), up2_idx _ _ _ (by omega), up2_idx _ _ _ (by omega), up2_idx _ _ _ (by omega), up2_idx _ _ _ (by omega), up2_idx _ _ _ (by omega), up2_idx _ _ _ (by omega), up2_idx _ _ _ (by omega), up2_idx _ _ _ (by omega), up2_idx _ _ _ (by omega), up2_idx _ _ _ (by omega), up2_idx _ _ _ (by omega), up2_idx _ _ _ (by omega), up2_idx _ _ _ (by omega), up2_idx _ _ _ (by omega), up2_idx _ _ _ (by omega), up2_idx _ _ _ (by omega), up2_idx _ _ _ (by omega), up2_idx _ _ _ (by omega), up2_idx _ _ _ (by omega), up2_idx _ _ _ (by omega), up2_idx _ _ _ (by omega), up2_idx _ _ _ (by omega), up2_idx _ _ _ (by omega), up2_idx _ _ _ (by omega), up2_idx _ _ _ (by omega), up2_idx _ _ _ (by omega), up2_idx _ _ _ (by omega), up2_idx _ _ _ (by omega), up2_idx _ _ _ (by omega), up2_idx _ _ _ (by omega), up2_idx _ _ _ (by omega), up2_idx _ _ _ (by omega), up2_idx _ _ _ (by omega), up2_idx _ _ _ (by omega), up2_idx _ _ _ (by omega), up2_idx _ _ _ (by omega), up2_idx _ _ _ (by omega), up1_at]
  | succ b =>
    rw [FM_up]
    rw [up2_ne _ _ _ (by omega), up2_ne _ _ _ (by omega), up2_ne _ _ _ (by omega), up2_ne _ _ _ (by omega), up2_ne _ _ _ (by omega), up2_ne _ _ _ (by omega), up2_ne _ _ _ (by omega), up2_ne _ _ _ (by omega), up2_ne _ _ _ (by omega), up2_ne _ _ _ (by omega), up2_ne _ _ _ (by omega), up2_ne _ _ _ (by omega), up2_ne _ _ _ (by omega), up2_ne _ _ _ (by omega), up2_ne _ _ _ (by omega), up2_ne _ _ _ (by omega), up2_ne _ _ _ (by omega), up2_ne _ _ _ (by omega), up2_ne _ _ _ (by omega), up2_ne _ _ _ (by omega), up2_ne _ _ _ (by omega), up2_ne _ _ _ (by omega), up2_ne _ _ _ (by omega), up2_ne _ _ _ (by omega), up2_ne _ _ _ (by omega), up2_ne _ _ _ (by omega), up2_ne _ _ _ (by omega), up2_ne _ _ _ (by omega), up2_ne _ _ _ (by omega), up2_ne _ _ _ (by omega), up2_ne _ _ _ (by omega), up2_ne _ _ _ (by omega), up2_ne _ _ _ (by omega), up2_ne _ _ _ (by omega), up2_ne _ _ _ (by omega), up2_ne _ _ _ (by omega), up2_ne _ _ _ (by omega), up2_ne _ _ _ (by omega), up2_ne _ _ _ (by omega), up2_ne _ _ _ (by omega), up2_ne _ _ _ (by omega), up2_ne _ _ _ (by omega), up2_ne _ _ _ (by omega), up2_ne _ _ _ (by omega), up2_ne _ _ _ (by omega), up2_ne _ _ _ (by omega), up1_ne _ _ (by omega)]
theorem start_M {Q : HI → Prop} (hQ : ∀ IM, RepM IM (aOpen 2 2) → IM 0 40 = 0 → (∀ c, c < 4 → IM 1 c = nI 8) → IM 0 4 = nI 0 → IM 0 5 = nI 1 → IM 0 16 = nI 0 → IM 0 18 = -1 → IM 0 49 = -1 → IM 0 50 = nI 0 → IM 0 54 = nI 0 → (∀ n, IM 35 n = 0) → (∀ s, IM 38 s = 0) → Q IM) : M_init (up1 i0 0 (fun _ => 0)) (up1 r0 0 (fun _ => none)) ([] ++ [(0, 18, 0)]) Q := by
  unfold M_init
  refine ⟨?_, ?_, ?_⟩
  · funext b j
    exact start_F b j
  · rfl
  · refine M_anew_k (n := 2) (q := 2) (by omega) (fun I' f A => hQ I' ⟨A.1, A.2.1, fun w hw => ⟨A.2.2.2.1 w hw, fun _ v hv => A.2.2.2.2 _ ?_, fun h1 => ?_⟩⟩ A.2.2.1 (fun c hc => ?_) ?_ ?_ ?_ ?_ ?_ ?_ ?_ (fun n => ?_) (fun s => ?_))
    · have hw : w < 2 := hw
      have hk : vw 2 2 (oth 2) z0 w ≤ 1024 := (aOpen_WF (n := 2) (q := 2) (by omega) (by omega) (by omega) (by omega) (by omega)).k1 w hw (by assumption)
      have hv : v < vw 2 2 (oth 2) z0 w := hv
      omega
    · have h1 : (if vw 2 2 (oth 2) z0 w ≤ 1024 then 0 else 2) = 1 := h1
      split at h1 <;> omega
    · rw [f _ _ (by unfold aP; omega)]
      rcases (show c = 0 ∨ c = 1 ∨ c = 2 ∨ c = 3 by omega) with rfl | rfl | rfl | rfl <;> simp [up1, up2_get] <;> rfl
    · rw [f _ _ (by unfold aP; omega)]; simp [up1, up2_get]; rfl
    · rw [f _ _ (by unfold aP; omega)]; simp [up1, up2_get]; rfl
    · rw [f _ _ (by unfold aP; omega)]; simp [up1, up2_get]; rfl
    · rw [f _ _ (by unfold aP; omega)]; simp [up1, up2_get]
    · rw [f _ _ (by unfold aP; omega)]; simp [up1, up2_get]
    · rw [f _ _ (by unfold aP; omega)]; simp [up1, up2_get]; rfl
    · rw [f _ _ (by unfold aP; omega)]; simp [up1, up2_get]; rfl
    · rw [f _ _ (by unfold aP; omega)]; simp [up1, up2_get]
    · rw [f _ _ (by unfold aP; omega)]; simp [up1, up2_get]
