/-! looks -/
theorem and_sub {x y : Int32} (h : x &&& (y ^^^ (-1)) = 0) : x &&& y = x := by
  apply Int32.toBitVec_inj.mp
  apply BitVec.eq_of_getLsbD_eq
  intro i hi
  have h2 := congrArg (fun z : Int32 => z.toBitVec.getLsbD i) h
  simp only [Int32.toBitVec_and, Int32.toBitVec_xor, BitVec.getLsbD_and, BitVec.getLsbD_xor] at h2 ⊢
  have e1 : (-1 : Int32).toBitVec.getLsbD i = true := by
    have : (-1 : Int32).toBitVec = BitVec.allOnes 32 := by decide
    rw [this, BitVec.getLsbD_allOnes]; simp [hi]
  have e0 : (0 : Int32).toBitVec.getLsbD i = false := BitVec.getLsbD_zero
  rw [e1, e0] at h2
  cases hx : x.toBitVec.getLsbD i <;> cases hy : y.toBitVec.getLsbD i <;> simp [hx, hy] at h2 ⊢
theorem wb32 (x : Int32) : ∃ n, n < 2 ^ 32 ∧ x = nI n := ⟨x.toBitVec.toNat, x.toBitVec.isLt, Int32.toBitVec_inj.mp (by show _ = BitVec.ofNat 32 _; simp)⟩
theorem sub_oth {x : Int32} {n w : Nat} (h : x &&& (nI (oth n w) ^^^ (-1)) = 0) : ∃ s, x = nI s ∧ s < 2 ^ n ∧ s.testBit w = false := by
  obtain ⟨j, hj, e⟩ := wb32 x
  have h1 := and_sub h
  rw [e, nAnd] at h1
  refine ⟨j &&& oth n w, by rw [e]; exact h1.symm, Nat.lt_of_le_of_lt Nat.and_le_right (oth_lt n w), ?_⟩
  rw [Nat.testBit_and, oth_bit]; simp
def kfact (I : HI) (b : AN) (k : Nat) : Prop := I 4 k = nI (akd b k) ∧ (akd b k = 0 → ∀ v, v < avw b k → I 5 (1024 * k + v) = nI (atb b k v)) ∧ (akd b k = 1 → mcd I k (acd b k))
theorem mcd.eq {I I' : HI} {w : Nat} {c : Option AC × AC} (g : mcd I w c) (h : ∀ b i, 6 ≤ b → b ≤ 8 → I' b i = I b i) : mcd I' w c := by
  obtain ⟨t, t1, t2, t3, t4⟩ := g
  refine ⟨t, (h _ _ (by omega) (by omega)).trans t1, mco_eq (fun k => h _ _ (by omega) (by omega)) _ _ t2, t3, ?_⟩
  cases hc1 : c.1 with
  | none => rw [hc1] at t4; exact (h _ _ (by omega) (by omega)).trans t4
  | some p => rw [hc1] at t4; exact ⟨(h _ _ (by omega) (by omega)).trans t4.1, mco_eq (fun k => h _ _ (by omega) (by omega)) _ _ t4.2.1, t4.2.2⟩
theorem RepM_blank {I1 I2 : HI} {b : AN} {w : Nat} (hw : w < an b) (N : MN I1 (an b) (aq b) (alk b) (ard b)) (e3 : I1 0 3 = nI (aq b ^ an b)) (hk : ∀ k, k < an b → k ≠ w → kfact I1 b k) (h1k : ∀ k, k < an b → k ≠ w → akd b k = 0 → avw b k ≤ 1024) (f : Fr (bP w) I1 I2) (hz : ∀ k, k < 1024 → I2 5 (1024 * w + k) = 0) (hkd : I2 4 w = nI (if avw b w ≤ 1024 then 0 else 2)) (h1 : akd b w ≠ 1) : RepM I2 (abl b w) := by
  refine ⟨N.fr f (by unfold bP; omega) (by unfold bP; omega) (fun _ _ => by unfold bP; omega) (fun _ _ => by unfold bP; omega), (f _ _ (by unfold bP; omega)).trans e3, fun k hkn => ?_⟩
  have hkn : k < an b := hkn
  have kw : kdn b w = if avw b w ≤ 1024 then 0 else 2 := by unfold kdn; rw [if_neg h1]
  by_cases e : k = w
  · subst e
    show I2 4 k = nI (upn (akd b) k (kdn b k) k) ∧ (upn (akd b) k (kdn b k) k = 0 → ∀ v, v < avw b k → I2 5 (1024 * k + v) = nI (upn (atb b) k (fun _ => 0) k v)) ∧ (upn (akd b) k (kdn b k) k = 1 → _)
    rw [upn_same, upn_same, kw]
    refine ⟨hkd, fun h0 v hv => ?_, fun q => ?_⟩
    · have : avw b k ≤ 1024 := by
        by_cases h9 : avw b k ≤ 1024
        · exact h9
        · rw [if_neg h9] at h0; omega
      exact hz v (by omega)
    · split at q <;> omega
  · obtain ⟨g1, g2, g3⟩ := hk k hkn e
    show I2 4 k = nI (upn (akd b) w (kdn b w) k) ∧ (upn (akd b) w (kdn b w) k = 0 → ∀ v, v < avw b k → I2 5 (1024 * k + v) = nI (upn (atb b) w (fun _ => 0) k v)) ∧ (upn (akd b) w (kdn b w) k = 1 → mcd I2 k (acd b k))
    rw [upn_ne _ _ e, upn_ne _ _ e]
    refine ⟨(f _ _ (by unfold bP; omega)).trans g1, fun h0 v hv => ?_, fun q => (g3 q).eq (fun x i h6 h8 => f _ _ (by unfold bP; omega))⟩
    have := h1k k hkn e h0
    rw [f _ _ (by unfold bP; omega)]; exact g2 h0 v hv
theorem nz_own {own : Nat → Nat} {ro : Nat} {L : HL} (O : Own own ro L) : ∀ b, own b ≠ 0 → 56 ≤ b := fun b hb => by
  by_cases h9 : b < 56
  · exact absurd (O.1 b h9) hb
  · omega
/-- the class's net at 1 and the reference's net are new, the caches are spoilt -/
theorem InvB.net {own h : Nat → Nat} {a a' : AN} {ro : Nat} {I I' : HI} {T T' F : HR} {L : HL} {IM IM' : HI} (B : InvB own h a ro I T F L IM) (W : WF a') (R : RepM IM' a') (N : CN I' 1 a') (C : CT I' T' F L own 1 a') (f : Fr (nP 1) I I') (ft : ∀ b i, b ≠ 7 → T' b i = T b i) (fm : ∀ b i, RM b i → IM' b i = IM b i) : InvB own h a' ro (up2 I' 26 1 0) T' F L (up2 IM' 0 40 0) := by
  obtain ⟨b1, b2, b3, b4, b5, b6, b7⟩ := B
  have nz := nz_own b7.1
  refine ⟨W, R.eq (fun b i hb => by rw [up2_get, if_neg (by omega)]), N.eq (fun j i hj => by rw [up2_get, if_neg (by omega)]), C.fr (fun b i hb => ?_) (fun _ _ => rfl) W.2.1 Ext.rf, Or.inl (up2_same _ _ _ _), Or.inl (up2_same _ _ _ _), b7.fr (fun b i hb => ?_) (fun b i hb => ?_) Ext.rf (fun b i hb => ?_)⟩
  · have := nz b; rw [up2_get, if_neg (by omega)]
  · have := nz b
    unfold RC at hb
    rw [up2_get, if_neg (by omega)]; exact f b i (by unfold nP; omega)
  · have := nz b; exact ft b i (by omega)
  · have h9 := hb
    unfold RM at hb
    rw [up2_get, if_neg (by omega)]; exact fm b i h9
/-- what a helper of the law owes where the class answers true or false -/
theorem H_need_y {I : HI} {n w : Nat} (e : I 1 0 = nI n) (h8 : n ≤ 8) (hw : w < n) {Q X : Prop} (h : Q) : H_needWearer I (nI w) Q X := by
  unfold H_needWearer
  rw [e]
  exact ie (nI_pos (by omega)) (it (nI_lt hw (by omega)) h)
theorem H_need_n {I : HI} {n : Nat} {x : Int32} (e : I 1 0 = nI n) (hx : x < 0 ∨ (¬ x < 0 ∧ nI n ≤ x)) {Q X : Prop} (h : X) : H_needWearer I x Q X := by
  unfold H_needWearer H_needWearer_b15
  rcases hx with hx | ⟨h0, hx⟩
  · exact it hx h
  · refine ie h0 (ie (fun q => ?_) h)
    rw [e, Int32.lt_iff_toInt_lt] at q
    rw [Int32.le_iff_toInt_le] at hx
    omega
theorem Inv_J {ro : Nat} {I : HI} {J J' : HJ} {T F : HR} {L : HL} {IM : HI} {JM JM' : HJ} (h : Inv ro (I, J, T, F, L) IM JM) : Inv ro (I, J', T, F, L) IM JM' := h
theorem up00' (I : HI) : (up2 (up2 I 0 0 0) 0 0 1) 0 0 = 1 := up2_same _ _ _ _
theorem st_looks {ro : Nat} {x1 x2 : Int32} {I : HI} {J : HJ} {T F : HR} {L : HL} {IM : HI} {JM : HJ} (hI : Inv ro (I, J, T, F, L) IM JM) : St_looks x1 x2 I J T F L ro IM JM (Inv ro) := by
  obtain ⟨own, h, a, B⟩ := Inv_el hI
  have B0 := B
  obtain ⟨W, R, N, C, b5, b6, b7⟩ := B
  obtain ⟨w1, w2, w3, w4, w5, w6⟩ := id W
  have hro := b7.1.2.2.2.1
  have n8 := w2
  have h256 := p2le w2
  unfold St_looks L_looks H_looks M_looks
  rcases wcase x1 (an a) (by omega) with ⟨w, hw, rfl⟩ | hx
  · refine H_need_y N.1 n8 hw ?_
    unfold Net_othersOf
    rw [N.1, nShl1 (an a) (by omega), nlit1, nS Nat.one_le_two_pow, ← nlit1, nShl1 w (by omega), oth_k (an a) (by omega) w (by omega)]
    have MA : ∀ {Q : Int32 → Prop}, Q (nI (2 ^ an a - 1)) → M_all (up2 IM 0 0 0) Q := fun hq => M_all_k (R.1.fr (Fr0 IM 0) (by omega) (by omega) (fun _ _ => by omega) (fun _ _ => by omega)) hq
    refine ic (fun hc => ?_) (fun hc => ?_)
    · obtain ⟨s, rfl, hs, hsb⟩ := sub_oth hc
      refine Net_lookAt_k W N C hw hs (fun I' f N' C' => ?_)
      unfold Led_spoil
      refine ie (by decide) ⟨hro, M_isWearer_y R.1.1 n8 hw (ie (by decide) (MA ?_))⟩
      rw [oth_k (an a) (by omega) w (by omega)]
      refine it hc ⟨vin (by omega) (by omega), ?_⟩
      rw [nx_nI (by omega), Fr0 IM 0 _ _ (by omega), R.1.2.2.1 w hw]
      have fin : ∀ IM', RepM IM' (aLook a w s) → (∀ b i, RM b i → IM' b i = IM b i) → IM' 0 0 = 0 → M_thrown (up2 IM' 0 40 0) (fun rt => rt = 0 ∧ ((0 : Int32) = 0 → (up2 J ro 0 1) ro 0 = if (1 : Int32) = 0 then 0 else 1) ∧ Inv ro (up2 I' 26 1 0, up2 J ro 0 1, T, F, L) (up2 IM' 0 40 0) JM) := by
        intro IM' R' fm h0
        unfold M_thrown
        refine ⟨by rw [up2_get, if_neg (by omega)]; exact h0, fun _ => by rw [up2_same]; decide, Inv_mk (B0.net (aLook_WF W hw hs hsb) R' N' C' f (fun _ _ _ => rfl) fm)⟩
      have fs : Fr (fun b i => b = 0 ∧ i = 0 ∨ b = 2 ∧ i = w) IM (up2 (up2 IM 0 0 0) 2 w (nI s)) := ((Fr0 IM 0).mono (fun b i hb => Or.inl hb)).up (Or.inr ⟨rfl, rfl⟩)
      refine ic (fun hc2 => ?_) (fun hc2 => ?_)
      · rw [nI_eq (by have := (w6 w hw).1; omega) (by omega)] at hc2
        unfold M_looks_b44
        refine ⟨vin (by omega) (by omega), it rfl ?_⟩
        rw [nx_nI (by omega)]
        refine fin _ ?_ (fun b i hb => fs _ _ (by unfold RM at hb; omega)) (by rw [up2_get, if_neg (by omega), up00])
        have e : aLook a w s = a := if_pos hc2
        rw [e]
        refine R.eq (fun b i hb => ?_)
        rw [up2_get]
        split
        · rename_i h9; rw [h9.1, h9.2, R.1.2.2.1 w hw, hc2]
        · exact Fr0 IM 0 _ _ (by omega)
      · rw [nI_eq (by have := (w6 w hw).1; omega) (by omega)] at hc2
        generalize hb : ((an a, aq a, upn (alk a) w s, ard a, akd a, atb a, acd a) : AN) = b at *
        have e : aLook a w s = abl b w := by unfold aLook; rw [if_neg hc2, hb]
        have Nb : MN (up2 (up2 IM 0 0 0) 2 w (nI s)) (an b) (aq b) (alk b) (ard b) := by
          rw [← hb]
          refine ⟨(fs _ _ (by omega)).trans R.1.1, (fs _ _ (by omega)).trans R.1.2.1, fun k hk => ?_, fun k hk => (fs _ _ (by omega)).trans (R.1.2.2.2.1 k hk), w1, w2, w3, w4, fun k hk => ?_, fun k hk => (w6 k hk).2.2.1⟩
          · show _ = nI (upn (alk a) w s k)
            by_cases ek : k = w
            · subst ek; rw [upn_same, up2_same]
            · rw [upn_ne _ _ ek, fs _ _ (by omega)]; exact R.1.2.2.1 k hk
          · show upn (alk a) w s k < _
            by_cases ek : k = w
            · subst ek; rw [upn_same]; exact hs
            · rw [upn_ne _ _ ek]; exact (w6 k hk).1
        have kf : ∀ k, k < an b → k ≠ w → kfact (up2 (up2 IM 0 0 0) 2 w (nI s)) b k := by
          rw [← hb]
          intro k hk ek
          obtain ⟨g1, g2, g3⟩ := R.2.2 k hk
          refine ⟨(fs _ _ (by omega)).trans g1, fun h0 v hv => (fs _ _ (by omega)).trans (g2 h0 v ?_), fun q => (g3 q).eq (fun x i h6 h8 => fs _ _ (by omega))⟩
          rw [show avw (an a, aq a, upn (alk a) w s, ard a, akd a, atb a, acd a) k = avw a k from vw_lk ek] at hv
          exact hv
        have k1 : ∀ k, k < an b → k ≠ w → akd b k = 0 → avw b k ≤ 1024 := by
          rw [← hb]
          intro k hk ek h0
          rw [show avw (an a, aq a, upn (alk a) w s, ard a, akd a, atb a, acd a) k = avw a k from vw_lk ek]
          exact W.k1 k hk h0
        have e3b : (up2 (up2 IM 0 0 0) 2 w (nI s)) 0 3 = nI (aq b ^ an b) := by rw [← hb]; exact (fs _ _ (by omega)).trans R.2.1
        have hwb : w < an b := by rw [← hb]; exact hw
        have kb : akd b w = akd a w := by rw [← hb]
        have cb : acd b = acd a := by rw [← hb]
        rw [e] at fin
        unfold M_looks_b44
        refine ⟨vin (by omega) (by omega), ie (by decide) ⟨vin (by omega) (by omega), ?_⟩⟩
        rw [nx_nI (by omega), fs _ _ (by omega), (R.2.2 w hw).1]
        have hk2 : akd a w ≤ 2 := by
          rcases (w6 w hw).2.2.2.1 with g | g
          · omega
          · rw [g]; split <;> omega
        refine ic (fun hc3 => ?_) (fun hc3 => ?_)
        · rw [nlit1, nI_eq (by omega) (by omega)] at hc3
          refine fin _ ⟨Nb, e3b, fun k hk => ?_⟩ (fun b i hb => fs _ _ (by unfold RM at hb; omega)) (by rw [up2_get, if_neg (by omega), up00])
          have hk : k < an b := hk
          by_cases ek : k = w
          · subst ek
            have kk : akd (abl b k) k = 1 := (abl_1 b k k).mpr (by rw [kb]; exact hc3)
            rw [kk]
            refine ⟨?_, fun q => by omega, fun _ => ?_⟩
            · rw [fs _ _ (by omega), (R.2.2 k hw).1, hc3]
            · show mcd _ k (acd b k)
              rw [cb]
              exact ((R.2.2 k hw).2.2 hc3).eq (fun x i h6 h8 => fs _ _ (by omega))
          · have g := kf k hk ek
            unfold kfact at g
            show _ = nI (upn (akd b) w (kdn b w) k) ∧ (upn (akd b) w (kdn b w) k = 0 → ∀ v, v < avw b k → _ = nI (upn (atb b) w (fun _ => 0) k v)) ∧ (upn (akd b) w (kdn b w) k = 1 → mcd _ k (acd b k))
            rw [upn_ne _ _ ek, upn_ne _ _ ek]
            exact g
        · rw [nlit1, nI_eq (by omega) (by omega)] at hc3
          refine M_blank_k Nb hwb (fun IM' fm hz hkd => ?_)
          refine fin _ (RepM_blank hwb Nb e3b kf k1 fm hz hkd (by rw [kb]; exact hc3)) (fun b i hb => ?_) ?_
          · rw [fm _ _ (by unfold RM at hb; unfold bP; omega)]; exact fs _ _ (by unfold RM at hb; omega)
          · rw [fm _ _ (by unfold bP; omega), up2_get, if_neg (by omega), up00]
    · refine it rfl ⟨hro, M_isWearer_y R.1.1 n8 hw (ie (by decide) (MA ?_))⟩
      rw [oth_k (an a) (by omega) w (by omega)]
      exact ie hc ⟨up00 _ _, fun _ => (up2_same J ro 0 0).trans (by decide), Inv_mk (B0.thr (Fr0 IM 0))⟩
  · refine H_need_n N.1 hx ⟨hro, M_isWearer_n R.1.1 hx (it rfl ⟨up00' _, fun q => absurd q (by decide), Inv_mk (B0.thr (Fr01 IM))⟩)⟩
