/-! idle -/
theorem M_laysOut_k {IM : HI} {a : AN} {r : Nat} (W : WF a) (R : RepM IM a) (hr : r < aq a ^ an a) (hd : done IM a r) {Q : HI → Prop} (hq : ∀ J, Fr (fun b _ => b = 17 ∨ b = 18) IM J → (∀ k, k < an a → J 17 k = nI (hat a r k)) → (∀ k, k < an a → J 18 k = nI (gs a (hat a r) k)) → Q J) : M_laysOut IM (nI r) Q := by
  have n8 := W.2.1
  have r5 := W.2.2.2.2.1
  unfold M_laysOut
  refine M_wears_k R.1.1 R.1.2.1 n8 W.2.2.1 W.2.2.2.1 (by omega) (fun I2 f2 h17 => ⟨an a + 1, ?_⟩)
  have h17 : ∀ w, w < an a → I2 17 w = nI (hat a r w) := h17
  have key : ∀ d j J, j + d = an a → Fr (fun b _ => b = 18) I2 J → (∀ k, k < j → J 18 k = nI (gs a (hat a r) k)) → M_laysOut_l7 (nI r) Q (d + 1) J (nI j) := by
    intro d
    induction d with
    | zero =>
      intro j J hj f hs
      rw [M_laysOut_l7, show J 0 1 = nI (an a) from (f _ _ (by omega)).trans ((f2 _ _ (by omega)).trans R.1.1)]
      exact it (nI_le (by omega) (by omega)) (hq J ((f2.mono (fun b i hb => Or.inl hb)).tr (f.mono (fun b i hb => Or.inr hb))) (fun k hk => (f _ _ (by omega)).trans (h17 k hk)) (fun k hk => hs k (by omega)))
    | succ d ih =>
      intro j J hj f hs
      have hj' : j < an a := by omega
      rw [M_laysOut_l7, show J 0 1 = nI (an a) from (f _ _ (by omega)).trans ((f2 _ _ (by omega)).trans R.1.1), show (8 : Int32) = nI 8 from rfl, nM, nI_add, nx_nI (by omega), nx_nI (by omega), f _ _ (by omega), show I2 22 (8 * r + j) = nI (gs a (hat a r) j) from (f2 _ _ (by omega)).trans (hd.2.2 j hj')]
      simp only [nI_1]
      refine ie (nI_ge (by omega) (by omega)) ⟨vin (by omega) (by omega), vin (by omega) (by omega), ih (j + 1) _ (by omega) (f.up rfl) (fun k hk => ?_)⟩
      rw [up2_get]
      by_cases e : k = j
      · rw [if_pos ⟨rfl, e⟩, e]
      · rw [if_neg (by omega)]; exact hs k (by omega)
  exact key (an a) 0 I2 (by omega) Fr.rf (fun k hk => by omega)
