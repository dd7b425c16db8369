/-! draw -/
theorem iu_32767 (x : Int32) : iu x 16 &&& 32767 = (x >>> ((16 : Int32) &&& 31)) &&& 32767 := by
  have h16 : ((nI 16 &&& 31).toBitVec.smod 32).toNat = 16 := nSh 16 (by omega)
  apply Int32.toBitVec_inj.mp
  rw [Int32.toBitVec_and, Int32.toBitVec_and]
  apply BitVec.eq_of_getLsbD_eq
  intro i hi
  rw [BitVec.getLsbD_and, BitVec.getLsbD_and]
  by_cases h : i < 15
  · have e1 : (iu x 16).toBitVec.getLsbD i = x.toBitVec.getLsbD (16 + i) := by
      show ((x.toUInt32 >>> ((16 : Int32).toUInt32 &&& Int32.toUInt32 31)).toInt32).toBitVec.getLsbD i = _
      rw [show (x.toUInt32 >>> ((16 : Int32).toUInt32 &&& Int32.toUInt32 31)).toInt32.toBitVec = x.toBitVec >>> 16 from rfl, BitVec.getLsbD_ushiftRight]
    have e2 : (x >>> ((16 : Int32) &&& 31)).toBitVec.getLsbD i = x.toBitVec.getLsbD (16 + i) := by
      rw [show (16 : Int32) = nI 16 from rfl, Int32.toBitVec_shiftRight, BitVec.sshiftRight_eq', h16, BitVec.getLsbD_sshiftRight]
      simp [show ¬ 32 ≤ i by omega, show 16 + i < 32 by omega]
    rw [e1, e2]
  · have e : ∀ i, i < 32 → ¬ i < 15 → (32767 : Int32).toBitVec.getLsbD i = false := by decide
    rw [e i hi h, Bool.and_false, Bool.and_false]
def lcg (s : Int32) : Int32 := s * 1103515245 + 12345
def rnd (s : Int32) : Nat := (iu s 16 &&& 32767).toInt.toNat
theorem rnd_k (s : Int32) : iu s 16 &&& 32767 = nI (rnd s) ∧ rnd s < 32768 := by
  have h : (iu s 16 &&& 32767).toBitVec.toNat < 32768 := by
    rw [Int32.toBitVec_and, BitVec.toNat_and]
    exact Nat.lt_of_le_of_lt Nat.and_le_right (by decide)
  have e : (iu s 16 &&& 32767) = nI ((iu s 16 &&& 32767).toBitVec.toNat) := by
    apply Int32.toBitVec_inj.mp
    apply BitVec.eq_of_toNat_eq
    show _ = (BitVec.ofNat 32 _).toNat
    rw [BitVec.toNat_ofNat, Nat.mod_eq_of_lt (by omega)]
  have t : rnd s = (iu s 16 &&& 32767).toBitVec.toNat := by
    unfold rnd
    rw [e, nI_toInt (by omega)]
    exact congrArg (fun y => y.toBitVec.toNat) e
  rw [t]
  exact ⟨e, h⟩
def sd (s : Int32) : Nat → Int32
  | 0 => s
  | v + 1 => lcg (sd s v)
def drT (q : Nat) (s : Int32) (v : Nat) : Nat := rnd (sd s (v + 1)) % q
/-- one wearer's table drawn -/
def aD1 (a : AN) (s : Int32) (w : Nat) : AN := if akd a w = 0 then aTab a w (drT (aq a) s) else a
def aD2 (a : AN) (s : Int32) (w : Nat) : Int32 := if akd a w = 0 then sd s (avw a w) else s
def aD3 (a : AN) (w : Nat) : Nat := if akd a w = 0 then avw a w else 0
def mix (a : AN) (w : Nat) (s : Int32) (v : Nat) : Nat → Nat := fun k => if k < v then drT (aq a) s k else atb a w k
theorem drT_lt {a : AN} (W : WF a) (s : Int32) (v : Nat) : drT (aq a) s v < aq a := Nat.mod_lt _ (by have := W.2.2.1; omega)
theorem mix_le {a : AN} {w : Nat} (W : WF a) (hw : w < an a) (hk : akd a w = 0) (s : Int32) (v : Nat) : ∀ k, k < avw a w → mix a w s v k ≤ aq a := fun k hv => by
  unfold mix
  split
  · exact Nat.le_of_lt (drT_lt W s k)
  · exact (W.2.2.2.2.2 w hw).2.2.2.2 hk k hv
theorem aD1_WF {a : AN} {w : Nat} (W : WF a) (hw : w < an a) (s : Int32) : WF (aD1 a s w) := by
  unfold aD1
  split
  · rename_i hk
    exact aTab_WF W (W.k1 w hw hk) (fun v _ => Nat.le_of_lt (drT_lt W s v))
  · exact W
theorem aD1_an (a : AN) (s : Int32) (w : Nat) : an (aD1 a s w) = an a := by unfold aD1; split <;> rfl
theorem draw_c1 {I : HI} {T F : HR} {L : HL} {own : Nat → Nat} {a : AN} {w c : Nat} {s : Int32} (W : WF a) (N : CN I 1 a) (C : CT I T F L own 1 a) (o8 : own 8 = 0) (hw : w < an a) {K : HI → Int32 → Int32 → Int32 → Prop} {Q : Int32 → HI → Prop} (hK : ∀ J, Fr (fun b _ => b = 8) I J → CN J 1 (aD1 a s w) → CT J T F L own 1 (aD1 a s w) → K J (nI (c + aD3 a w)) (aD2 a s w) (nI (w + 1))) : ∃ nn, Net_drawTables_l19 T 1 (nI w) K Q nn I (nI c) s 0 := by
  have n8 := W.2.1
  have q2 := W.2.2.1
  have q4 := W.2.2.2.1
  by_cases hk : akd a w = 0
  · have hv := W.k1 w hw hk
    have ht : T (1 + 6) w = none := by
      rcases C.2.2 w hw with g | ⟨g, _⟩
      · exact g.2
      · omega
    rw [show aD1 a s w = aTab a w (drT (aq a) s) from if_pos hk, show aD2 a s w = sd s (avw a w) from if_pos hk, show aD3 a w = avw a w from if_pos hk] at hK
    have key : ∀ d v J, v + d = avw a w → Fr (fun b i => b = 1 + 7 ∧ 1024 * w ≤ i ∧ i < 1024 * w + 1024) I J → (∀ i, i < 8192 → byt (J (1 + 7) i)) → (∀ k, k < avw a w → J (1 + 7) (1024 * w + k) = nI (mix a w s v k)) → Net_drawTables_l19 T 1 (nI w) K Q (d + 1) J (nI (c + v)) (sd s v) (nI v) := by
      intro d
      induction d with
      | zero =>
        intro v J hd f hb hm
        have : v = avw a w := by omega
        subst this
        have NJ := CN_tab (t := mix a w s (avw a w)) W N hw f hb hm
        have CJ := CT_tab (t := mix a w s (avw a w)) W C (fun b i hb => f _ _ (fun q => by rw [q.1, show own (1 + 7) = 0 from o8] at hb; omega)) hw ht (fun _ _ => rfl)
        have WJ := aTab_WF (t := mix a w s (avw a w)) W hv (mix_le W hw hk s _)
        have N2 := CN_tab (t := drT (aq a) s) W N hw f hb (fun k hkv => by rw [hm k hkv]; unfold mix; rw [if_pos hkv])
        have C2 := CT_tab (t := drT (aq a) s) W C (fun b i hb => f _ _ (fun q => by rw [q.1, show own (1 + 7) = 0 from o8] at hb; omega)) hw ht (fun _ _ => rfl)
        rw [Net_drawTables_l19]
        simp only [nI_1]
        refine Net_has_k WJ NJ CJ hw (fun _ => ie (by decide) ?_) (fun q => absurd (upn_same _ _ _) q)
        have e5 : J (1 + 4) w = nI (avw a w) := by rw [f _ _ (by omega), N.2.2.2.2.2.2.1 w hw]; exact if_pos hv
        rw [nx_nI (by omega), e5]
        exact ⟨vin (by omega) (by omega), it (nI_le (Nat.le_refl _) (by omega)) (hK J (f.mono (fun b i hb => by omega)) N2 C2)⟩
      | succ d ih =>
        intro v J hd f hb hm
        have hvv : v < avw a w := by omega
        have NJ := CN_tab (t := mix a w s v) W N hw f hb hm
        have CJ := CT_tab (t := mix a w s v) W C (fun b i hb => f _ _ (fun q => by rw [q.1, show own (1 + 7) = 0 from o8] at hb; omega)) hw ht (fun _ _ => rfl)
        have WJ := aTab_WF (t := mix a w s v) W hv (mix_le W hw hk s _)
        rw [Net_drawTables_l19]
        simp only [nI_1]
        refine Net_has_k WJ NJ CJ hw (fun _ => ie (by decide) ?_) (fun q => absurd (upn_same _ _ _) q)
        have e5 : J (1 + 4) w = nI (avw a w) := by rw [f _ _ (by omega), N.2.2.2.2.2.2.1 w hw]; exact if_pos hv
        have e1 : J 1 1 = nI (aq a) := (f _ _ (by omega)).trans N.2.1
        have er : irm (iu (sd s v * 1103515245 + 12345) 16 &&& 32767) (nI (aq a)) = nI (drT (aq a) s v) := by
          have := rnd_k (sd s (v + 1))
          rw [show sd s v * 1103515245 + 12345 = sd s (v + 1) from rfl, this.1, nRem (by omega) (by omega)]; rfl
        have hl := drT_lt W s v
        rw [nx_nI (by omega), e5, e1, er]
        refine ⟨vin (by omega) (by omega), ie (nI_ge hvv (by omega)) ⟨fun q => ?_, ?_⟩⟩
        · rw [nlit0, nI_eq (by omega) (by omega)] at q; omega
        unfold Net_setGuess
        rw [nlit1024, nM, nI_add, Nat.mul_comm w, nx_nI (by omega), (byt_k _ (show drT (aq a) s v < 100 by omega)).2]
        refine ⟨vin (by omega) (by omega), ih (v + 1) _ (by omega) (f.up ⟨rfl, by omega, by omega⟩) (fun i hi => ?_) (fun k hkv => ?_)⟩
        · rw [up2_get]; split
          · exact (byt_k _ (by omega)).1
          · exact hb i hi
        · rw [up2_get]
          by_cases e : k = v
          · subst e; rw [if_pos ⟨rfl, rfl⟩]; unfold mix; rw [if_pos (by omega)]
          · rw [if_neg (by omega), hm k hkv]
            unfold mix
            by_cases e2 : k < v
            · rw [if_pos e2, if_pos (by omega)]
            · rw [if_neg e2, if_neg (by omega)]
    exact ⟨avw a w + 1, key (avw a w) 0 I (by omega) Fr.rf N.2.2.2.2.2.2.2.2.1 (fun k hkv => by rw [N.2.2.2.2.2.2.2.2.2 w hw hk k hkv]; unfold mix; rw [if_neg (by omega)])⟩
  · rw [show aD1 a s w = a from if_neg hk, show aD2 a s w = s from if_neg hk, show aD3 a w = 0 from if_neg hk] at hK
    refine ⟨1, ?_⟩
    rw [Net_drawTables_l19, nI_1]
    exact Net_has_k W N C hw (fun q => absurd q hk) (fun _ => it rfl (hK I Fr.rf N C))
theorem draw_m1 {IM : HI} {a : AN} {w c : Nat} {s : Int32} (W : WF a) (R : RepM IM a) (hw : w < an a) {K : HI → Int32 → Int32 → Int32 → Prop} {Q : Int32 → HI → Prop} (hK : ∀ J, Fr (fun b _ => b = 5) IM J → RepM J (aD1 a s w) → K J (aD2 a s w) (nI (c + aD3 a w)) (nI (w + 1))) : ∃ nn, M_draw_l24 (nI w) K Q nn IM s (nI c) 0 := by
  have n8 := W.2.1
  have q2 := W.2.2.1
  have q4 := W.2.2.2.1
  have k2 := W.kd hw
  by_cases hk : akd a w = 0
  · have hv := W.k1 w hw hk
    have ev : vwc (an a) (aq a) (alk a) (ard a) w = avw a w := if_pos hv
    have e4 : IM 4 w = 0 := by rw [(R.2.2 w hw).1, hk]; rfl
    rw [show aD1 a s w = aTab a w (drT (aq a) s) from if_pos hk, show aD2 a s w = sd s (avw a w) from if_pos hk, show aD3 a w = avw a w from if_pos hk] at hK
    have key : ∀ d v J, v + d = avw a w → Fr (fun b i => b = 5 ∧ 1024 * w ≤ i ∧ i < 1024 * w + 1024) IM J → (∀ k, k < avw a w → J 5 (1024 * w + k) = nI (mix a w s v k)) → M_draw_l24 (nI w) K Q (d + 1) J (sd s v) (nI (c + v)) (nI v) := by
      intro d
      induction d with
      | zero =>
        intro v J hd f hm
        have : v = avw a w := by omega
        subst this
        have h4 : J 4 w = 0 := (f _ _ (by omega)).trans e4
        have f' : Fr (fun b i => b = 4 ∧ i = w ∨ b = 5 ∧ 1024 * w ≤ i ∧ i < 1024 * w + 1024) IM J := f.mono (fun b i hb => Or.inr hb)
        have R2 := RepM_tab (t := drT (aq a) s) W R hw f' h4 (fun k hkv => by rw [hm k hkv]; unfold mix; rw [if_pos hkv])
        rw [M_draw_l24, nx_nI (by omega), h4]
        simp only [nI_1]
        refine ⟨vin (by omega) (by omega), it trivial (M_viewsOf_k R2.1 hw ?_)⟩
        rw [show vwc (an (aTab a w (drT (aq a) s))) (aq (aTab a w (drT (aq a) s))) (alk (aTab a w (drT (aq a) s))) (ard (aTab a w (drT (aq a) s))) w = avw a w from ev]
        exact it (nI_le (Nat.le_refl _) (by omega)) (hK J (f.mono (fun b i hb => hb.1)) R2)
      | succ d ih =>
        intro v J hd f hm
        have hvv : v < avw a w := by omega
        have h4 : J 4 w = 0 := (f _ _ (by omega)).trans e4
        have f' : Fr (fun b i => b = 4 ∧ i = w ∨ b = 5 ∧ 1024 * w ≤ i ∧ i < 1024 * w + 1024) IM J := f.mono (fun b i hb => Or.inr hb)
        have RJ := RepM_tab (t := mix a w s v) W R hw f' h4 hm
        have e2 : J 0 2 = nI (aq a) := (f _ _ (by omega)).trans R.1.2.1
        have er : irm (((sd s v * 1103515245 + 12345) >>> ((16 : Int32) &&& 31)) &&& 32767) (nI (aq a)) = nI (drT (aq a) s v) := by
          have := rnd_k (sd s (v + 1))
          rw [← iu_32767, show sd s v * 1103515245 + 12345 = sd s (v + 1) from rfl, this.1, nRem (by omega) (by omega)]; rfl
        rw [M_draw_l24, nx_nI (show w < 2 ^ 31 by omega), h4, e2, er]
        simp only [nI_1]
        refine ⟨vin (by omega) (by omega), it trivial (M_viewsOf_k RJ.1 hw ?_)⟩
        rw [show vwc (an (aTab a w (mix a w s v))) (aq (aTab a w (mix a w s v))) (alk (aTab a w (mix a w s v))) (ard (aTab a w (mix a w s v))) w = avw a w from ev]
        rw [nlit1024, nM, nI_add, nx_nI (by omega)]
        refine ie (nI_ge hvv (by omega)) ⟨fun q => ?_, vin (by omega) (by omega), ih (v + 1) _ (by omega) (f.up ⟨rfl, by omega, by omega⟩) (fun k hkv => ?_)⟩
        · rw [nlit0, nI_eq (by omega) (by omega)] at q; omega
        · rw [up2_get]
          by_cases e : k = v
          · subst e; rw [if_pos ⟨rfl, rfl⟩]; unfold mix; rw [if_pos (by omega)]
          · rw [if_neg (by omega), hm k hkv]
            unfold mix
            by_cases e2 : k < v
            · rw [if_pos e2, if_pos (by omega)]
            · rw [if_neg e2, if_neg (by omega)]
    exact ⟨avw a w + 1, key (avw a w) 0 IM (by omega) Fr.rf (fun k hkv => by rw [(R.2.2 w hw).2.1 hk k hkv]; unfold mix; rw [if_neg (by omega)])⟩
  · rw [show aD1 a s w = a from if_neg hk, show aD2 a s w = s from if_neg hk, show aD3 a w = 0 from if_neg hk] at hK
    refine ⟨1, ?_⟩
    rw [M_draw_l24, nI_1, nx_nI (by omega), (R.2.2 w hw).1]
    exact ⟨vin (by omega) (by omega), ie (fun q => hk (by rw [nlit0, nI_eq (by omega) (by omega)] at q; exact q)) (hK IM Fr.rf R)⟩
def drA : Nat → Nat → AN → Int32 → AN
  | 0, _, a, _ => a
  | d + 1, w, a, s => drA d (w + 1) (aD1 a s w) (aD2 a s w)
def drC : Nat → Nat → AN → Int32 → Nat
  | 0, _, _, _ => 0
  | d + 1, w, a, s => aD3 a w + drC d (w + 1) (aD1 a s w) (aD2 a s w)
theorem drA_WF : ∀ d w a s, w + d = an a → WF a → WF (drA d w a s)
  | 0, _, _, _, _, W => W
  | d + 1, w, a, s, h, W => drA_WF d (w + 1) _ _ (by rw [aD1_an]; omega) (aD1_WF W (by omega) s)
theorem draw_c {T F : HR} {L : HL} {own : Nat → Nat} (o8 : own 8 = 0) {Q : Int32 → HI → Prop} : ∀ d w a s c I, w + d = an a → WF a → CN I 1 a → CT I T F L own 1 a → (∀ J, Fr (fun b _ => b = 8) I J → CN J 1 (drA d w a s) → CT J T F L own 1 (drA d w a s) → Q (nI (c + drC d w a s)) J) → Net_drawTables_l7 T 1 Q (d + 1) I (nI c) s (nI w) := by
  intro d
  induction d with
  | zero =>
    intro w a s c I hd W N C hQ
    have n8 := W.2.1
    rw [Net_drawTables_l7, N.1]
    exact it (nI_le (by omega) (by omega)) (hQ I Fr.rf N C)
  | succ d ih =>
    intro w a s c I hd W N C hQ
    have n8 := W.2.1
    rw [Net_drawTables_l7, N.1]
    refine ie (nI_ge (by omega) (by omega)) (draw_c1 W N C o8 (by omega) (fun J f NJ CJ => ?_))
    refine ih (w + 1) (aD1 a s w) (aD2 a s w) (c + aD3 a w) J (by rw [aD1_an]; omega) (aD1_WF W (by omega) s) NJ CJ (fun J2 f2 N2 C2 => ?_)
    have g := hQ J2 (f.tr f2) N2 C2
    rw [drC, ← Nat.add_assoc] at g
    exact g
theorem draw_m {Q : Int32 → HI → Prop} : ∀ d w a s c IM, w + d = an a → WF a → RepM IM a → (∀ J, Fr (fun b _ => b = 5) IM J → RepM J (drA d w a s) → Q (nI (c + drC d w a s)) (up2 J 0 40 0)) → M_draw_l12 Q (d + 1) IM s (nI c) (nI w) := by
  intro d
  induction d with
  | zero =>
    intro w a s c IM hd W R hQ
    have n8 := W.2.1
    rw [M_draw_l12, R.1.1]
    exact it (nI_le (by omega) (by omega)) (hQ IM Fr.rf R)
  | succ d ih =>
    intro w a s c IM hd W R hQ
    have n8 := W.2.1
    rw [M_draw_l12, R.1.1]
    refine ie (nI_ge (by omega) (by omega)) (draw_m1 W R (by omega) (fun J f RJ => ?_))
    refine ih (w + 1) (aD1 a s w) (aD2 a s w) (c + aD3 a w) J (by rw [aD1_an]; omega) (aD1_WF W (by omega) s) RJ (fun J2 f2 R2 => ?_)
    have g := hQ J2 (f.tr f2) R2
    rw [drC, ← Nat.add_assoc] at g
    exact g
theorem st_draw {ro : Nat} {x1 : Int32} {I : HI} {J : HJ} {T F : HR} {L : HL} {IM : HI} {JM : HJ} (hI : Inv ro (I, J, T, F, L) IM JM) : St_draw x1 I J T F L ro IM JM (Inv ro) := by
  obtain ⟨own, h, a, B⟩ := Inv_el hI
  have B0 := B
  obtain ⟨W, R, N, C, b5, b6, b7⟩ := B
  have o56 := b7.1.1
  unfold St_draw H_draw Led_spoil Net_drawTables M_draw
  have f0 : Fr (fun b i => b = 26 ∧ i = 1) I (up2 I 26 1 0) := Fr.rf.up ⟨rfl, rfl⟩
  refine ⟨an a + 1, draw_c (F := F) (L := L) (own := own) (o56 8 (by omega)) (an a) 0 a x1 0 _ (by omega) W (N.eq (fun j i hj => f0 _ _ (by omega))) (C.fr (fun b i hb => f0 _ _ (fun q => by rw [q.1, o56 26 (by omega)] at hb; omega)) (fun _ _ => rfl) W.2.1 Ext.rf) (fun I1 f1 N1 C1 => ?_)⟩
  refine ⟨an a + 1, draw_m (an a) 0 a x1 0 _ (by omega) W (R.eq (fun b i hb => Fr0 IM 0 _ _ (by omega))) (fun J2 f2 R2 => ⟨rfl, ?_⟩)⟩
  have fI : Fr (nP 1) I (up2 I1 26 1 (I 26 1)) := by
    intro b i hb
    unfold nP at hb
    rw [up2_get]
    by_cases e : b = 26 ∧ i = 1
    · rw [if_pos e, e.1, e.2]
    · rw [if_neg e, f1 _ _ (by omega)]; exact f0 _ _ e
  have e1 : up2 (up2 I1 26 1 (I 26 1)) 26 1 0 = I1 := by
    funext b i
    rw [up2_get, up2_get]
    by_cases e : b = 26 ∧ i = 1
    · rw [if_pos e, e.1, e.2]; exact ((f1 26 1 (by omega)).trans (up2_same I 26 1 0)).symm
    · rw [if_neg e, if_neg e]
  have fu : Fr (fun b i => b = 26 ∧ i = 1) I1 (up2 I1 26 1 (I 26 1)) := Fr.rf.up ⟨rfl, rfl⟩
  have g := B0.net (drA_WF _ _ _ x1 (by omega) W) R2 (N1.eq (I' := up2 I1 26 1 (I 26 1)) (fun j i hj => fu _ _ (by omega))) (C1.fr (I' := up2 I1 26 1 (I 26 1)) (fun b i hb => fu _ _ (fun q => by rw [q.1, o56 26 (by omega)] at hb; omega)) (fun _ _ => rfl) (drA_WF _ _ _ x1 (by omega) W).2.1 Ext.rf) fI (fun _ _ _ => rfl) (fun b i hb => (f2 _ _ (by unfold RM at hb; omega)).trans (Fr0 IM 0 _ _ (by unfold RM at hb; omega)))
  rw [e1] at g
  exact Inv_mk g
