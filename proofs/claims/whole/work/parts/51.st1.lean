/-! hall, looks, round -/
theorem RepM.eq {I I' : HI} {a : AN} (R : RepM I a) (h : ∀ b i, (b = 0 ∧ (i = 1 ∨ i = 2 ∨ i = 3)) ∨ (2 ≤ b ∧ b ≤ 8) → I' b i = I b i) : RepM I' a := by
  obtain ⟨N, e3, e4⟩ := R
  refine ⟨⟨(h _ _ (by omega)).trans N.1, (h _ _ (by omega)).trans N.2.1, fun w hw => (h _ _ (by omega)).trans (N.2.2.1 w hw), fun w hw => (h _ _ (by omega)).trans (N.2.2.2.1 w hw), N.2.2.2.2⟩, (h _ _ (by omega)).trans e3, fun w hw => ?_⟩
  obtain ⟨g1, g2, g3⟩ := e4 w hw
  refine ⟨(h _ _ (by omega)).trans g1, fun h0 v hv => (h _ _ (by omega)).trans (g2 h0 v hv), fun h1 => ?_⟩
  obtain ⟨t, t1, t2, t3, t4⟩ := g3 h1
  refine ⟨t, (h _ _ (by omega)).trans t1, mco_eq (fun k => h _ _ (by omega)) _ _ t2, t3, ?_⟩
  cases hc1 : (acd a w).1 with
  | none => rw [hc1] at t4; exact (h _ _ (by omega)).trans t4
  | some p => rw [hc1] at t4; exact ⟨(h _ _ (by omega)).trans t4.1, mco_eq (fun k => h _ _ (by omega)) _ _ t4.2.1, t4.2.2⟩
theorem Fr0 (I : HI) (v : Int32) : Fr (fun b i => b = 0 ∧ i = 0) I (up2 I 0 0 v) := Fr.rf.up ⟨rfl, rfl⟩
theorem Fr01 (I : HI) : Fr (fun b i => b = 0 ∧ i = 0) I (up2 (up2 I 0 0 0) 0 0 1) := (Fr0 I 0).up ⟨rfl, rfl⟩
/-- only what was thrown is new in the reference -/
theorem InvB.thr {own h : Nat → Nat} {a : AN} {ro : Nat} {I : HI} {T F : HR} {L : HL} {IM IM' : HI} (B : InvB own h a ro I T F L IM) (f : Fr (fun b i => b = 0 ∧ i = 0) IM IM') : InvB own h a ro I T F L IM' := by
  obtain ⟨b1, b2, b3, b4, b5, b6, b7⟩ := B
  refine ⟨b1, b2.eq (fun b i hb => f _ _ (by omega)), b3, b4, ?_, b6, b7.fr (fun _ _ _ => rfl) (fun _ _ _ => rfl) Ext.rf (fun b i hb => f _ _ (by unfold RM at hb; omega))⟩
  rcases b5 with g | ⟨g1, g2⟩
  · exact Or.inl ((f _ _ (by omega)).trans g)
  · exact Or.inr ⟨(f _ _ (by omega)).trans g1, fun r hr => ⟨(f _ _ (by omega)).trans (g2 r hr).1, (f _ _ (by omega)).trans (g2 r hr).2.1, fun w hw => (f _ _ (by omega)).trans ((g2 r hr).2.2 w hw)⟩⟩
theorem Inv_mk {own h : Nat → Nat} {a : AN} {ro : Nat} {I : HI} {J : HJ} {T F : HR} {L : HL} {IM : HI} {JM : HJ} (B : InvB own h a ro I T F L IM) : Inv ro (I, J, T, F, L) IM JM := ⟨own, h, a, B⟩
theorem Inv_el {ro : Nat} {I : HI} {J : HJ} {T F : HR} {L : HL} {IM : HI} {JM : HJ} (h : Inv ro (I, J, T, F, L) IM JM) : ∃ own h a, InvB own h a ro I T F L IM := h
theorem st_hall {ro : Nat} {x1 x2 : Int32} {I : HI} {J : HJ} {T F : HR} {L : HL} {IM : HI} {JM : HJ} (hI : Inv ro (I, J, T, F, L) IM JM) : St_hall x1 x2 I J T F L ro IM JM (Inv ro) := by
  obtain ⟨own, h, a, B⟩ := Inv_el hI
  unfold St_hall H_hall M_hall
  have no : Inv ro (I, J, T, F, L) (up2 IM 0 0 0) JM := Inv_mk (B.thr (Fr0 IM 0))
  have m1 : ∀ {x : Int32} {lo hi : Int32} {Q : Int32 → Prop}, x < lo → Q 0 → M_within x lo hi Q := fun hx hq => by unfold M_within; exact it hx hq
  have m2 : ∀ {x : Int32} {lo hi : Int32} {Q : Int32 → Prop}, ¬ x < lo → hi < x → Q 0 → M_within x lo hi Q := fun h0 hx hq => by unfold M_within; exact ie h0 (it hx hq)
  have m3 : ∀ {x : Int32} {lo hi : Int32} {Q : Int32 → Prop}, ¬ x < lo → ¬ hi < x → Q 1 → M_within x lo hi Q := fun h0 hx hq => by unfold M_within; exact ie h0 (ie hx hq)
  by_cases c1 : x1 < 1
  · unfold Net_fits
    exact it c1 (it rfl (m1 c1 (it rfl ⟨rfl, no⟩)))
  by_cases c2 : 8 < x1
  · unfold Net_fits
    exact ie c1 (it c2 (it rfl (m2 c1 c2 (it rfl ⟨rfl, no⟩))))
  by_cases c3 : x2 < 2
  · unfold Net_fits
    exact ie c1 (ie c2 (it c3 (it rfl (m3 c1 c2 (ie (by decide) (m1 c3 (it rfl ⟨rfl, no⟩)))))))
  by_cases c4 : 4 < x2
  · unfold Net_fits
    have c5 : ¬ x2 ≤ 4 := fun q => by rw [Int32.lt_iff_toInt_lt] at c4; rw [Int32.le_iff_toInt_le] at q; omega
    exact ie c1 (ie c2 (ie c3 (ie c5 (it rfl (m3 c1 c2 (ie (by decide) (m2 c3 c4 (it rfl ⟨rfl, no⟩))))))))
  have g1 : ¬ x1 < 0 := fun q => c1 (by rw [Int32.lt_iff_toInt_lt] at q ⊢; have e0 : (0 : Int32).toInt = 0 := rfl; have e1 : (1 : Int32).toInt = 1 := rfl; omega)
  have g2 : ¬ x2 < 0 := fun q => c3 (by rw [Int32.lt_iff_toInt_lt] at q ⊢; have e0 : (0 : Int32).toInt = 0 := rfl; have e1 : (2 : Int32).toInt = 2 := rfl; omega)
  obtain ⟨n, hn, rfl⟩ := nI_of g1
  obtain ⟨q, hq, rfl⟩ := nI_of g2
  have n1 : 1 ≤ n := by rw [nlit1, nI_ltI hn (by omega)] at c1; omega
  have n8 : n ≤ 8 := by rw [nlit8, nI_ltI (by omega) hn] at c2; omega
  have q2 : 2 ≤ q := by rw [show (2 : Int32) = nI 2 from rfl, nI_ltI hq (by omega)] at c3; omega
  have q4 : q ≤ 4 := by rw [show (4 : Int32) = nI 4 from rfl, nI_ltI (by omega) hq] at c4; omega
  have pb := pow_b n8 q4
  have mkey : ∀ {Q : Int32 → HI → Prop}, (q ^ n ≤ 6561 → M_anew (up2 IM 0 0 0) (nI n) (nI q) (fun I5 => Q 1 I5)) → (¬ q ^ n ≤ 6561 → Q 0 (up2 IM 0 0 0)) → ∃ nn, M_hall_l31 (up2 IM 0 0 0) (nI n) (nI q) Q nn 1 0 := by
    intro Q hy hno
    have key : ∀ d i, i + d = n → M_hall_l31 (up2 IM 0 0 0) (nI n) (nI q) Q (d + 1) (nI (q ^ i)) (nI i) := by
      intro d
      induction d with
      | zero =>
        intro i hi
        have : i = n := by omega
        subst this
        rw [M_hall_l31, show (6561 : Int32) = nI 6561 from rfl]
        refine it (nI_le (Nat.le_refl _) (by omega)) (ic (fun hc => ?_) (fun hc => ?_))
        · rw [nI_leI (by omega) (by omega)] at hc; exact hy hc
        · rw [nI_leI (by omega) (by omega)] at hc; exact hno hc
      | succ d ih =>
        intro i hi
        rw [M_hall_l31]
        refine ie (nI_ge (by omega) (by omega)) ?_
        rw [nM, ← Nat.pow_succ, nI_1]
        exact ih (i + 1) (by omega)
    exact ⟨n + 1, key n 0 (by omega)⟩
  refine Net_fits_k n1 n8 q2 q4 (fun hr => ?_) (fun hr => ?_)
  · refine ie (by decide) ?_
    obtain ⟨b1, b2, b3, b4, b5, b6, b7⟩ := B
    refine Net_open_k n8 q2 q4 b3.2.2.2.2.2.2.2.2.1 (fun I' T' f N' t1 t2 => ?_)
    unfold Led_spoil
    refine m3 c1 c2 (ie (by decide) (m3 c3 c4 (ie (by decide) (mkey (fun _ => M_anew_k ⟨n1, n8, q2, q4⟩ (fun IM' fm A => ⟨rfl, Inv_mk (own := own) (h := h) (a := aOpen n q) ?_⟩)) (fun q => absurd hr q)))))
    have fm2 : ∀ b i, ¬ aP n b i → ¬ (b = 0 ∧ i = 0) → IM' b i = IM b i := fun b i h1 h2 => (fm b i h1).trans (Fr0 IM 0 b i h2)
    have fI : ∀ b i, ¬ nP 1 b i → ¬ (b = 26 ∧ i = 1) → (up2 I' 26 1 0) b i = I b i := fun b i h1 h2 => by rw [up2_get, if_neg h2]; exact f b i h1
    have o56 := b7.1.1
    have nz : ∀ b, own b ≠ 0 → 56 ≤ b := fun b hb => by by_cases h9 : b < 56; exact absurd (o56 b h9) hb; omega
    refine ⟨aOpen_WF n1 n8 q2 q4 hr, ⟨A.1, A.2.1, fun w hw => ⟨A.2.2.2.1 w hw, fun _ v hv => A.2.2.2.2 _ ?_, fun h1 => ?_⟩⟩, N'.eq (fun j i hj => by rw [up2_get, if_neg (by omega)]), ⟨b4.1, fun w f9 hw hf => ?_, fun w hw => Or.inl ⟨?_, t1 w hw⟩⟩, Or.inl A.2.2.1, Or.inl (up2_same _ _ _ _), b7.fr (fun b i hb => ?_) (fun b i hb => ?_) Ext.rf (fun b i hb => ?_)⟩
    · have hw : w < n := hw
      have hk : vw n q (oth n) z0 w ≤ 1024 := (aOpen_WF n1 n8 q2 q4 hr).k1 w hw (by assumption)
      have hv : v < vw n q (oth n) z0 w := hv
      omega
    · have h1 : (if vw n q (oth n) z0 w ≤ 1024 then 0 else 2) = 1 := h1
      split at h1 <;> omega
    · by_cases hwn : w < n
      · rw [t1 w hwn] at hf; cases hf
      · rw [t2 _ _ (by omega)] at hf; exact b4.2.1 w f9 hw hf
    · show (if vw n q (oth n) z0 w ≤ 1024 then 0 else 2) ≠ 1
      split <;> omega
    · have := nz b
      unfold RC at hb
      exact fI b i (by unfold nP; omega) (by omega)
    · have := nz b
      exact t2 b i (by omega)
    · unfold RM at hb
      exact fm2 b i (by unfold aP; omega) (by omega)
  · exact it rfl (m3 c1 c2 (ie (by decide) (m3 c3 c4 (ie (by decide) (mkey (fun q => absurd q hr) (fun _ => ⟨rfl, no⟩))))))
