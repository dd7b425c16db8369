/-! the class's start -/
set_option maxRecDepth 4000 in
theorem Pure0_Inv : Pure0 Inv := by
  unfold Pure0 H_init Net_init
  refine ⟨by unfold NetSh; simp [up2_get], Net_open_k (n := 2) (q := 2) (by omega) (by omega) (by omega) (fun j hj => ?_) (fun I3 T3 f3 N3 t31 t32 => ⟨by decide, by decide, by decide, by unfold NetSh; simp [up2_get], Net_open_k (n := 2) (q := 2) (by omega) (by omega) (by omega) (fun j hj => ?_) (fun I4 T4 f4 N4 t41 t42 => ?_)⟩)⟩
  · show byt ((up1 _ (1 + 8) _) (1 + 7) j)
    rw [up1_ne _ _ (by omega), up1_at]; exact byt0
  · show byt ((up1 _ (10 + 8) _) (10 + 7) j)
    rw [up1_ne _ _ (by omega), up1_at]; exact byt0
  unfold Sc_init Jud_init Led_init Rd_init Se_init Su_init Cov_init Men_init Sc_init
  refine ⟨by decide, by decide, by decide, by decide, by decide, by decide, by decide, by decide, by decide, by decide, by decide, by decide, by decide, by decide, by decide, by decide, by decide, by decide, by decide, by decide, by decide, by decide, by decide, by decide, by decide, by decide, by decide, by decide, by decide, by decide, by decide, by decide, by decide, by decide, ?_⟩
  refine start_M (fun IM R h40 h1 h4 h5 h16 h18 h49 h50 h54 h35 h38 ro hro => ?_)
  have r56 : 56 ≤ ro := by have := hro (55, 0, 8) (by decide); exact this
  have i4 : ∀ b i, 1 ≤ b → b ≤ 9 → I4 b i = I3 b i := fun b i h1 h2 => by
    rw [f4 _ _ (by unfold nP; omega)]
    simp (disch := omega) only [up1_ne]
  have t7 : ∀ w, T4 7 w = none := fun w => by
    rw [t42 _ _ (by omega), up1_ne _ _ (by omega)]
    by_cases hw : w < 2
    · exact t31 w hw
    · rw [t32 _ _ (by omega), up1_at]
  refine Inv_mk (own := z0) (h := fun _ => 8) (a := aOpen 2 2) ⟨aOpen_WF (by omega) (by omega) (by omega) (by omega) (by omega), R, N3.eq (fun j i hj => ?_), ⟨fun j hj => ⟨show (0 : Nat) ≠ 2 by decide, show (0 : Nat) ≠ 3 by decide⟩, fun w f hw hf => ?_, fun w hw => Or.inl ⟨?_, ?_⟩⟩, Or.inl h40, Or.inl ?_, ⟨fun _ _ => rfl, rfl, fun b hb => absurd rfl hb, List.mem_append_right _ (List.mem_singleton.mpr rfl), r56⟩, ?_, fun i hi => ?_, ⟨fun c hc => ⟨?_, h1 c hc, show 8 ≤ 9 by decide⟩, 0, 1, ?_, h4, by omega, ?_, h5, by omega⟩, ⟨0, ?_, h16, by omega, fun k hk => by omega⟩, ?_, ?_, ⟨0, ?_, h50, by omega, fun w hw => by omega⟩, ⟨⟨0, ?_, by omega, ?_, h54, fun i hi => by unfold cov at hi; simp at hi⟩, fun n _ _ => Or.inl (h35 n)⟩, fun s hs => Or.inl ⟨?_, h38 s⟩⟩
  · simp (disch := omega) only [up1_ne, up2_ne]
    exact i4 _ _ (by omega) (by omega)
  · simp (disch := omega) only [up1_ne] at hf
    have := t7 w
    rw [show (1 + 6 : Nat) = 7 from rfl, this] at hf
    cases hf
  · show (if vw 2 2 (oth 2) z0 w ≤ 1024 then 0 else 2) ≠ 1
    split <;> omega
  · simp (disch := omega) only [up1_ne]
    exact t7 w
  · simp [up1, up2_get]
  · refine ⟨?_, ?_⟩
    · intro p hp
      refine List.mem_append_left _ ?_
      revert p
      decide
    · decide
  · simp (disch := omega) only [up1_ne, up2_ne]
    exact N4.2.2.2.2.2.2.2.2.1 i hi
  · rcases (show c = 0 ∨ c = 1 ∨ c = 2 ∨ c = 3 by omega) with rfl | rfl | rfl | rfl <;> simp [up1, up2_get] <;> rfl
  · simp [up1, up2_get]; rfl
  · simp [up1, up2_get]; rfl
  · simp [up1, up2_get]; rfl
  · rw [h18]; simp [up1, up2_get]
  · rw [h49]; simp [up1, up2_get]
  · simp [up1, up2_get]; rfl
  · simp [up1, up2_get]; rfl
  · simp [up1, up2_get]; rfl
  · simp [up1, up2_get]
