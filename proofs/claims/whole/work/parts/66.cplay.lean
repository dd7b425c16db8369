/-! the class: guesses of a row -/
theorem xor_sign {x : Int32} {q : Nat} (h4 : q ≤ 4) : 0 ≤ x ^^^ nI q ↔ 0 ≤ x := by
  have z0 : (0 : Int32).toInt = 0 := rfl
  have sg : ∀ y : Int32, 0 ≤ y ↔ y.toBitVec.msb = false := fun y => by
    rw [Int32.le_iff_toInt_le, z0]
    show 0 ≤ y.toBitVec.toInt ↔ _
    rw [BitVec.msb_eq_toInt]
    simp
  rw [sg, sg, Int32.toBitVec_xor, BitVec.msb_xor]
  have : (nI q).toBitVec.msb = false := by
    rw [← sg]; exact nI_pos' (by omega)
  rw [this]; simp
theorem Jd_floor_k {x : Int32} {q : Nat} (h2 : 2 ≤ q) (h4 : q ≤ 4) {Q : Int32 → Prop} (h : Q (nI (fmod x q))) : Jd_floorMod x (nI q) Q := by
  have hk := fmod_k (P := Q) h2 h4 h
  have hm := irm_int (x := x) h2 h4
  have z0 : (0 : Int32).toInt = 0 := rfl
  have m4 : 0 ≤ x.toInt → 0 ≤ x.toInt.tmod (q : Int) := fun h => Int.tmod_nonneg _ h
  have m5 : x.toInt ≤ 0 → x.toInt.tmod (q : Int) ≤ 0 := fun h => by
    have h9 := Int.tmod_nonneg (a := - x.toInt) (q : Int) (by omega)
    rw [Int.neg_tmod] at h9
    omega
  unfold Jd_floorMod
  refine ⟨nI_ne0 (by omega) (by omega), ic (fun hc => ?_) (fun hc => ic (fun hz => ?_) (fun hz => ?_))⟩
  · rw [xor_sign h4, Int32.le_iff_toInt_le, z0] at hc
    rw [if_pos (by rw [Int32.le_iff_toInt_le, hm, z0]; exact m4 hc)] at hk
    exact hk
  · rw [if_pos (by rw [hz]; decide)] at hk; exact hk
  · rw [xor_sign h4, Int32.le_iff_toInt_le, z0] at hc
    rw [if_neg (fun q9 => hz (Int32.toInt_inj.mp (by rw [Int32.le_iff_toInt_le, hm, z0] at q9; rw [hm, z0]; have := m5 (by omega); omega)))] at hk
    exact hk
theorem Frm_guess_k {I : HI} {F : HR} {L : HL} {own : Nat → Nat} {a : AN} {h g : Nat → Nat} {w f r r1 : Nat} (W : WF a) (hw : w < an a) (C : CRow I r r1 a h g w) (hk1 : akd a w = 1) (P : Frep I F L own f (acd a w)) (hor : own (r + 1) ≠ 3 ∧ own (r + 2) ≠ 3) (hon : ∀ j, j ≤ 8 → own (r1 + j) ≠ 3) {Q : Int32 → HI → Prop} (hQ : ∀ I', Fr (fun b _ => own b = 3) I I' → Q (nI (gues a h g w)) I') : ∃ en ek el eq ev, FrmSh F L f en ek el eq ev ∧ Frm_guess I f en ek el eq ev r1 (nI w) r Q := by
  have q2 := W.2.2.1
  have q4 := W.2.2.2.1
  obtain ⟨n0, k, l, q, v, sh, o1, o2, o3, o4, o5, hn, ef, cr1, cr2⟩ := P
  obtain ⟨k1, k3, k4⟩ : cdok (an a) (acd a w) := by
    rcases (W.2.2.2.2.2 w hw).2.2.2.1 with g9 | g9
    · exact g9.2
    · rw [hk1] at g9; split at g9 <;> omega
  refine ⟨n0, k, l, q, v, sh, ?_⟩
  have hvf : v ≠ f := fun e => by rw [e, o1] at o5; omega
  have hvk : v ≠ k := fun e => by rw [e, o2] at o5; omega
  have hvl : v ≠ l := fun e => by rw [e, o3] at o5; omega
  have hvq : v ≠ q := fun e => by rw [e, o4] at o5; omega
  have hvr : v ≠ r + 1 ∧ v ≠ r + 2 := ⟨fun e => hor.1 (by rw [← e]; exact o5), fun e => hor.2 (by rw [← e]; exact o5)⟩
  have hvn : ∀ j, j ≤ 8 → v ≠ r1 + j := fun j hj e => hon j hj (by rw [← e]; exact o5)
  have own3 : ∀ {I'}, Fr (fun b _ => b = v) I I' → Fr (fun b _ => own b = 3) I I' := fun fr => fr.mono (fun b i hb => by rw [hb]; exact o5)
  have ne2 : (acd a w).2 ≠ [] := fun e => by rw [e] at k1; exact absurd k1 (by simp [cok])
  unfold gues at hQ
  rw [if_neg (by omega), if_neg (by omega)] at hQ
  -- the end, and what is behind 'pass'
  have endg : (∀ I', Fr (fun b _ => own b = 3) I I' → Q (nI (fmod (ev a h g w (acd a w).2) (aq a))) I') → ∀ I1 x4, Fr (fun b _ => b = v) I I1 → ∃ nn, Frm_guess_l6 f n0 k l q v r1 r (nI w) Q nn I1 x4 (nI ((acd a w).1.getD []).length) := by
    intro hq I1 x4 f1
    refine Frm_guess_l (I0 := I) (pl := ((acd a w).1.getD []).length) W hw (by omega) (by omega) hvf hvk hvl hvq hvr hvn (acd a w).2 _ [] [] I1 x4 ne2 (crel_fr (fun i => f1 _ _ (fun e => hvk e.symm)) (fun i => f1 _ _ (fun e => hvl e.symm)) (fun i => f1 _ _ (fun e => hvq e.symm)) _ _ _ cr2) k1 trivial (fun b hb => by cases hb) (by omega) ((f1 _ _ (fun e => hvf e.symm)).trans ef) (C.fr f1 hvr hvn) f1 (Or.inl (Nat.le_refl _)) (fun I' y f' ey _ => ?_) (fun he => ?_)
    · refine ⟨1, ?_⟩
      rw [Frm_guess_l6, ← hn]
      refine it (show Int32.ofNat n0 ≤ nI n0 from nI_le (Nat.le_refl _) (by omega)) ?_
      rw [show I' r1 1 = nI (aq a) from (f' _ _ (fun e => hvn 0 (by omega) e.symm)).trans C.1.2.1]
      refine Jd_floor_k q2 q4 ?_
      rw [ey]
      exact hq I' (own3 f')
    · have : 1 ≤ (acd a w).2.length := by
        cases hc : (acd a w).2 with
        | nil => exact absurd hc ne2
        | cons _ _ => simp
      omega
  cases hc : (acd a w).1 with
  | none =>
    rw [hc] at hQ endg
    exact endg hQ I 0 Fr.rf
  | some p =>
    have kp := k4 p hc
    have nep : p ≠ [] := fun e => by rw [e] at kp; exact absurd kp (by simp [cok])
    rw [hc] at hQ endg cr1 ef k3 hn
    dsimp only [Option.getD] at hQ endg cr1 ef k3 hn
    refine Frm_guess_l (I0 := I) (pl := p.length) W hw (by omega) (by omega) hvf hvk hvl hvq hvr hvn p 0 [] [] I 0 nep cr1 kp trivial (fun b hb => by cases hb) (by omega) ef C Fr.rf (Or.inr (by omega)) (fun I' y f' ey hy => ?_) (fun he hy I' f' => ?_)
    · rw [Nat.zero_add] at hy ⊢
      have hy0 := hy rfl
      have he : ev a h g w p = 0 := by rw [hy0] at ey; exact ey.symm
      rw [if_pos he] at hQ
      exact endg hQ I' y f'
    · have he : ¬ ev a h g w p = 0 := hy
      rw [if_neg he] at hQ
      exact hQ I' (own3 f')
theorem Sc_guessOf_k {I : HI} {T F : HR} {L : HL} {own : Nat → Nat} {a : AN} {h g : Nat → Nat} {w r r1 : Nat} (W : WF a) (hw : w < an a) (C : CRow I r r1 a h g w) (D : CT I T F L own r1 a) (hor : own (r + 1) ≠ 3 ∧ own (r + 2) ≠ 3) (hh : ∀ k, k < an a → h k < aq a) (hg : ∀ k, k < an a → ard a k < ard a w → g k ≤ aq a) {Q : Int32 → HI → Prop} (hQ : ∀ I', Fr (fun b _ => own b = 3) I I' → Q (nI (gues a h g w)) I') : Sc_guessOf I T F L r r1 (nI w) Q := by
  have n8 := W.2.1
  unfold Sc_guessOf
  rw [nx_nI (by omega), C.1.2.2.2.2.2.2.1 w hw]
  refine ⟨vin (by omega) (by omega), fun h0 => ⟨vin (by omega) (by omega), ?_⟩, fun f9 hf => ?_⟩
  · have h1 : akd a w ≠ 1 := by
      rcases D.2.2 w hw with g9 | ⟨g9, f, g1, _⟩
      · exact g9.1
      · rw [h0] at g1; cases g1
    have hk := W.kd01 hw h1
    unfold gues at hQ
    refine ic (fun hc => ?_) (fun hc => ?_)
    · rw [vwi_n] at hc
      rw [if_neg hc] at hk
      rw [if_pos hk] at hQ
      exact hQ I Fr.rf
    · rw [vwi_n] at hc
      rw [if_pos (by omega)] at hk
      rw [if_neg (by omega), if_pos hk] at hQ
      have vl := view_lt W hw hh hg
      have v1 := W.k1 w hw hk
      refine Sc_viewOf_k W C hw ?_
      unfold Net_guessAt
      rw [nlit1024, nM, nI_add, Nat.mul_comm w]
      refine ⟨vin (by omega) (by omega), ?_⟩
      rw [nx_nI (by omega), C.1.2.2.2.2.2.2.2.2.2 w hw hk _ vl]
      exact hQ I Fr.rf
  · rcases D.2.2 w hw with g9 | ⟨g9, f', g1, g2⟩
    · rw [g9.2] at hf; cases hf
    · rw [hf] at g1
      cases g1
      exact Frm_guess_k W hw C g9 g2 hor (fun j hj => (D.1 j hj).2) hQ
def scP (own : Nat → Nat) (r : Nat) : Nat → Nat → Prop := fun b _ => b = r + 2 ∨ own b = 3
theorem Sc_guessAll_k {I : HI} {T F : HR} {L : HL} {own : Nat → Nat} {a : AN} {h : Nat → Nat} {r r1 : Nat} (W : WF a) (N : CN I r1 a) (D : CT I T F L own r1 a) (h1 : ∀ k, k < an a → I (r + 1) k = nI (h k)) (hor : own (r + 1) ≠ 3 ∧ own (r + 2) = 0) (hr : ∀ j, j ≤ 8 → r1 + j ≠ r + 2) (hh : ∀ k, k < an a → h k < aq a) {Q : HI → Prop} (hQ : ∀ I', Fr (scP own r) I I' → (∀ w, w < an a → I' (r + 2) w = nI (gs a h w)) → Q I') : Sc_guessAll I T F L r r1 Q := by
  have n8 := W.2.1
  have hgl := gs_le W hh
  obtain ⟨o, hO, ho⟩ := N.2.2.2.2.2.2.2.1
  obtain ⟨O1, O2, O3⟩ := hO
  have key : ∀ d i J, i + d = an a → Fr (scP own r) I J → (∀ j, j < i → J (r + 2) (o j) = nI (gs a h (o j))) → Sc_guessAll_l2 T F L r r1 Q (d + 1) J (nI i) := by
    intro d
    induction d with
    | zero =>
      intro i J hi f hs
      have hN : CN J r1 a := N.eq (fun j k hj => f _ _ (by unfold scP; have := hr j hj; have := (D.1 j hj).2; omega))
      rw [Sc_guessAll_l2, hN.1]
      refine it (nI_le (by omega) (by omega)) (hQ J f (fun w hw => ?_))
      obtain ⟨j, hj, e⟩ := O3 w hw
      rw [← e]; exact hs j (by omega)
    | succ d ih =>
      intro i J hi f hs
      have hN : CN J r1 a := N.eq (fun j k hj => f _ _ (by unfold scP; have := hr j hj; have := (D.1 j hj).2; omega))
      have hw := O1 i (by omega)
      have eo : J (r1 + 5) i = nI (o i) := by
        rw [f _ _ (by unfold scP; have := hr 5 (by omega); have := (D.1 5 (by omega)).2; omega)]; exact ho i (by omega)
      have C : CRow J r r1 a h (gs a h) (o i) := ⟨hN, fun k hk => by rw [f _ _ (by unfold scP; omega)]; exact h1 k hk, fun k hk hr2 => by
        obtain ⟨j, hj, e⟩ := O3 k hk
        rw [← e]
        refine hs j ?_
        by_cases hji : j < i
        · exact hji
        · exfalso
          by_cases hji2 : j = i
          · subst hji2; rw [e] at hr2; omega
          · have := O2 i j (by omega) hj
            rw [e] at this
            omega⟩
      have DJ : CT J T F L own r1 a := D.fr (fun b k hb => f _ _ (by unfold scP; intro q; rcases q with q | q; (rw [q] at hb; omega); omega)) (fun _ _ => rfl) n8 Ext.rf
      rw [Sc_guessAll_l2, hN.1, nx_nI (by omega), eo]
      refine ie (nI_ge (by omega) (by omega)) ⟨vin (by omega) (by omega), Sc_guessOf_k W hw C DJ ⟨hor.1, by rw [hor.2]; decide⟩ hh (fun k hk _ => hgl k hk) (fun J2 f2 => ⟨vin (by omega) (by omega), ?_⟩)⟩
      rw [← gs_fix W hw, nx_nI (by omega), nI_1]
      refine ih (i + 1) _ (by omega) ((f.tr (f2.mono (fun b k hb => Or.inr hb))).up (Or.inl rfl)) (fun j hj => ?_)
      rw [up2_get]
      by_cases e : o j = o i
      · rw [if_pos ⟨rfl, e⟩, e]
      · rw [if_neg (by omega), f2 _ _ (show ¬ own (r + 2) = 3 by rw [hor.2]; decide)]
        refine hs j ?_
        by_cases e2 : j = i
        · rw [e2] at e; exact absurd rfl e
        · omega
  exact ⟨an a + 1, key (an a) 0 I (by omega) Fr.rf (fun j hj => by omega)⟩
