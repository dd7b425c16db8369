/-! line: the class's side -/
def aTx (b : AN) (w : Nat) (c : Option AC × AC) : AN := (an b, aq b, alk b, ard b, upn (akd b) w 1, atb b, upn (acd b) w c)
theorem aTx_WF {b : AN} {w : Nat} {c : Option AC × AC} (W : WF b) (hc : cdok (an b) c) : WF (aTx b w c) := by
  obtain ⟨w1, w2, w3, w4, w5, w6⟩ := W
  refine ⟨w1, w2, w3, w4, w5, fun k hk => ?_⟩
  obtain ⟨g1, g2, g3, g4, g5⟩ := w6 k hk
  refine ⟨g1, g2, g3, ?_, ?_⟩
  · show upn (akd b) w 1 k = 1 ∧ cdok (an b) (upn (acd b) w c k) ∨ upn (akd b) w 1 k = if avw b k ≤ 1024 then 0 else 2
    by_cases e : k = w
    · subst e; rw [upn_same, upn_same]; exact Or.inl ⟨rfl, hc⟩
    · rw [upn_ne _ _ e, upn_ne _ _ e]; exact g4
  · show upn (akd b) w 1 k = 0 → _
    by_cases e : k = w
    · subst e; rw [upn_same]; intro q; omega
    · rw [upn_ne _ _ e]; exact g5
theorem CN_tx {I : HI} {r : Nat} {b : AN} {w : Nat} {c : Option AC × AC} (N : CN I r b) : CN I r (aTx b w c) := by
  obtain ⟨e0, e1, e2, e3, e4, e5, e6, e7, e8, e9⟩ := N
  refine ⟨e0, e1, e2, e3, e4, e5, e6, e7, e8, fun k hk h0 v hv => ?_⟩
  have h0 : upn (akd b) w 1 k = 0 := h0
  by_cases e : k = w
  · subst e; rw [upn_same] at h0; omega
  · rw [upn_ne _ _ e] at h0; exact e9 k hk h0 v hv
theorem CT_tx {I : HI} {T F : HR} {L : HL} {own : Nat → Nat} {r : Nat} {b : AN} {w f : Nat} {c : Option AC × AC} (C : CT I T F L own r b) (hf : Frep I F L own f c) (h8 : (f, 8, 0) ∈ L) : CT I (up2 T (r + 6) w (some f)) F L own r (aTx b w c) := by
  obtain ⟨h1, h2, h3⟩ := C
  refine ⟨h1, fun k f' hk hf' => ?_, fun k hk => ?_⟩
  · rw [up2_get] at hf'
    by_cases e : k = w
    · rw [if_pos ⟨rfl, e⟩] at hf'; cases hf'; exact h8
    · rw [if_neg (by omega)] at hf'; exact h2 k f' hk hf'
  · show upn (akd b) w 1 k ≠ 1 ∧ _ ∨ upn (akd b) w 1 k = 1 ∧ ∃ f', _ ∧ Frep I F L own f' (upn (acd b) w c k)
    by_cases e : k = w
    · subst e
      rw [upn_same, upn_same, up2_same]
      exact Or.inr ⟨rfl, f, rfl, hf⟩
    · rw [upn_ne _ _ e, upn_ne _ _ e, up2_get, if_neg (by omega)]
      exact h3 k hk
theorem netmem {F : HR} {L : HL} {r : Nat} (h : NetSh F L r) : ∀ j, j ≤ 8 → ∃ p ∈ L, p.1 = r + j := by
  intro j hj
  obtain ⟨a0, a1, a2, a3, a4, a5, a6, a7, a8, a9, a10, a11, a12, a13, a14, a15, a16⟩ := h
  rcases (show j = 0 ∨ j = 1 ∨ j = 2 ∨ j = 3 ∨ j = 4 ∨ j = 5 ∨ j = 6 ∨ j = 7 ∨ j = 8 by omega) with rfl | rfl | rfl | rfl | rfl | rfl | rfl | rfl | rfl
  · exact ⟨_, a0, rfl⟩
  · exact ⟨_, a2, rfl⟩
  · exact ⟨_, a4, rfl⟩
  · exact ⟨_, a6, rfl⟩
  · exact ⟨_, a8, rfl⟩
  · exact ⟨_, a10, rfl⟩
  · exact ⟨_, a12, rfl⟩
  · exact ⟨_, a14, rfl⟩
  · exact ⟨_, a16, rfl⟩
theorem LC0_all : ∀ b, b < 56 → ∃ p ∈ LC0, p.1 = b := by decide
theorem geo_all {F : HR} {L : HL} (h : Geo F L) : ∀ b, b < 56 → ∃ p ∈ L, p.1 = b := fun b hb => by
  obtain ⟨p, h1, h2⟩ := LC0_all b hb
  exact ⟨p, h.1 p h1, h2⟩
theorem lc_ok {n w : Nat} (h : 1 ≤ n) : cdok n (lc w) := by
  unfold lc
  refine ⟨?_, ?_, fun p q => by cases q⟩
  · dsimp only
    have v10 : vok n 10 := ⟨by omega, by omega, by omega⟩
    have v11 : vok n 11 := ⟨by omega, by omega, by omega⟩
    have v12 : vok n 12 := ⟨by omega, by omega, by omega⟩
    split
    · exact Or.inl ⟨Or.inr ⟨rfl, v11⟩, rfl⟩
    · refine Or.inl ⟨Or.inr ⟨rfl, v10⟩, Or.inl ⟨Or.inr ⟨rfl, v11⟩, Or.inr (Or.inr ⟨by omega, by omega, by omega, Or.inl ⟨Or.inr ⟨rfl, v12⟩, Or.inl ⟨Or.inr ⟨rfl, v10⟩, Or.inr (Or.inr ⟨by omega, by omega, by omega, Or.inr (Or.inr ⟨by omega, by omega, by omega, rfl⟩)⟩)⟩⟩⟩)⟩⟩
  · dsimp only; split <;> decide
/-- while the wearers are put in line -/
def LnS (own : Nat → Nat) (I0 : HI) (T0 F : HR) (L : HL) (a : AN) (I : HI) (T : HR) (c : AN) (i : Nat) : Prop := WF c ∧ an c = an a ∧ aq c = aq a ∧ LNet c (an a) i ∧ CN I 1 c ∧ CT I T F L own 1 c ∧ Fr (nP 1) I0 I ∧ ∀ b i, b ≠ 7 → T b i = T0 b i
theorem lc_pos {w : Nat} (h : w ≠ 0) : lc w = lc 1 := by unfold lc; rw [if_neg h, if_neg (by omega)]
theorem Frep.cell {I : HI} {F : HR} {L : HL} {own : Nat → Nat} {f : Nat} {c : Option AC × AC} (h : Frep I F L own f c) : (f, 8, 0) ∈ L := by
  obtain ⟨n, k, l, q, v, h1, _⟩ := h
  exact h1.1
theorem line_l2 {own : Nat → Nat} {ro : Nat} {I0 : HI} {T0 F : HR} {L : HL} {a : AN} {f g n1 k1 l1 q1 v1 n2 k2 l2 q2 v2 : Nat} (W : WF a) (O : Own own ro L) (hf : Frep I0 F L own f (lc 0)) (hg : Frep I0 F L own g (lc 1)) {Q : HI → HR → Prop} (hQ : ∀ I T c, LnS own I0 T0 F L a I T c (an a) → Q I T) : ∀ d i I T c, i + d = an a → LnS own I0 T0 F L a I T c i → Net_standInLine_l2 L 1 f n1 k1 l1 q1 v1 g n2 k2 l2 q2 v2 Q (d + 1) I T (nI i) := by
  have n8 := W.2.1
  have n1 := W.1
  have nz := nz_own O
  intro d
  induction d with
  | zero =>
    intro i I T c hi S
    have : i = an a := by omega
    subst this
    rw [Net_standInLine_l2, S.2.2.2.2.1.1, S.2.1]
    exact it (nI_le (Nat.le_refl _) (by omega)) (hQ I T c S)
  | succ d ih =>
    intro i I T c hi S
    obtain ⟨Wc, cn, cq, ln, N, C, fI, fT⟩ := S
    have hi' : i < an c := by omega
    rw [Net_standInLine_l2, N.1, cn]
    refine ie (nI_ge (by omega) (by omega)) ?_
    unfold Net_othersOf
    rw [N.1, cn, nShl1 (an a) (by omega), nlit1, nS Nat.one_le_two_pow, ← nlit1, nShl1 i (by omega), oth_k (an a) (by omega) i (by omega)]
    show Net_lookAt I 1 (nI i) ((nI (oth (an a) i) >>> (nI i &&& 31)) <<< (nI i &&& 31)) _
    rw [gtm_c (an a) (by omega) i (by omega)]
    have hgt : gtm (an a) i < 2 ^ an c := by rw [cn]; exact gtm_lt _ _
    have W3 := aLook_WF Wc hi' hgt (gtm_bit _ _)
    have l3n : an (aLook c i (gtm (an a) i)) = an a := by unfold aLook; split <;> exact cn
    have l3q : aq (aLook c i (gtm (an a) i)) = aq a := by unfold aLook; split <;> exact cq
    have l3l : ∀ w, alk (aLook c i (gtm (an a) i)) w = if w = i then gtm (an a) i else alk c w := fun w => by
      unfold aLook
      by_cases e : alk c i = gtm (an a) i
      · rw [if_pos e]; split
        · rename_i q; rw [q]; exact e
        · rfl
      · rw [if_neg e]; rfl
    have l3r : ard (aLook c i (gtm (an a) i)) = ard c := by unfold aLook; split <;> rfl
    have l3k : ∀ w, akd (aLook c i (gtm (an a) i)) w = 1 ↔ akd c w = 1 := fun w => by
      unfold aLook; split
      · exact Iff.rfl
      · rw [abl_1]
    have l3c : acd (aLook c i (gtm (an a) i)) = acd c := by unfold aLook; split <;> rfl
    refine Net_lookAt_k Wc N C hi' hgt (fun I3 f3 N3 C3 => ?_)
    generalize aLook c i (gtm (an a) i) = c3 at *
    refine Net_guessIn_k W3 N3 C3 (by omega) (by omega) (fun I5 f5 N5 C5 => ?_)
    have W5 := aRound_WF (w := i) (ρ := i) W3 (by omega)
    have f05 : Fr (nP 1) I0 I5 := (fI.tr f3).tr f5
    have fo : ∀ b k, own b = 2 → I5 b k = I0 b k := fun b k hb => f05 b k (by have := nz b (by omega); unfold nP; omega)
    simp only [nI_1]
    have next : ∀ f', Frep I5 F L own f' (lc i) → LnS own I0 T0 F L a I5 (up2 T (1 + 6) i (some f')) (aTx (aRound c3 i i) i (lc i)) (i + 1) := by
      intro f' hf'
      refine ⟨aTx_WF W5 (lc_ok (by show 1 ≤ an c3; omega)), l3n, l3q, fun w hw => ?_, CN_tx N5, CT_tx C5 hf' hf'.cell, f05, fun b k hb => ?_⟩
      · show alk c3 w = gtm (an a) w ∧ upn (ard c3) i i w = w ∧ upn (akd (aRound c3 i i)) i 1 w = 1 ∧ upn (acd c3) i (lc i) w = lc w
        rw [l3l]
        by_cases e : w = i
        · subst e; rw [if_pos rfl, upn_same, upn_same, upn_same]; exact ⟨rfl, rfl, rfl, rfl⟩
        · obtain ⟨k1, k2, k3, k4⟩ := ln w (by omega)
          rw [if_neg e, upn_ne _ _ e, upn_ne _ _ e, upn_ne _ _ e, l3r, l3c]
          exact ⟨k1, k2, (aRound_kd1 c3 i i w).mpr ((l3k w).mpr k3), k4⟩
      · rw [up2_get, if_neg (by omega)]; exact fT b k hb
    by_cases e : i = 0
    · subst e
      refine it rfl ⟨vin (by omega) (by omega), ?_⟩
      rw [nx_nI (by omega)]
      exact ih 1 I5 _ _ (by omega) (next f (hf.fr fo Ext.rf))
    · refine ie (nI_ne0 (by omega) (by omega)) ⟨vin (by omega) (by omega), ?_⟩
      rw [nx_nI (by omega)]
      exact ih (i + 1) I5 _ _ (by omega) (next g (by rw [lc_pos e]; exact hg.fr fo Ext.rf))
theorem up2_id {α : Type} {f : Nat → Nat → α} {a i : Nat} {v : α} (h : f a i = v) : up2 f a i v = f := by
  funext b j
  rw [up2_get]
  split
  · rename_i q; rw [q.1, q.2, h]
  · rfl
/-- all is new in the net at hand: formulas were made -/
theorem InvB.made {own own' h : Nat → Nat} {a c : AN} {ro : Nat} {I I' : HI} {T T' F F' : HR} {L L' : HL} {IM IM' : HI} (B : InvB own h a ro I T F L IM) (Wc : WF c) (R : RepM IM' c) (N : CN I' 1 c) (C : CT I' T' F' L' own' 1 c) (O : Own own' ro L') (G : Geo F' L') (ho : ∀ b, own b ≠ 0 → own' b = own b) (ex : Ext F L F' L') (fI : ∀ b i, (∃ p ∈ L, p.1 = b) → ¬ nP 1 b i → I' b i = I b i) (fT : ∀ b i, b ≠ 7 → T' b i = T b i) (fm : ∀ b i, RM b i → IM' b i = IM b i) (h40 : IM' 0 40 = 0) : InvB own' h c ro (up2 I' 26 1 0) T' F' L' IM' := by
  obtain ⟨b1, b2, b3, b4, b5, b6, r1, r2, r3, r4, r5, r6, r7, r8, r9, r10⟩ := B
  have nz := nz_own r1
  have nz' := nz_own O
  have g : ∀ b i, b < 56 → ¬ (1 ≤ b ∧ b ≤ 9) → ¬ (b = 26) → (up2 I' 26 1 0) b i = I b i := fun b i h1 h2 h3 => by rw [up2_get, if_neg (by omega)]; exact fI b i (geo_all r2 b h1) (by unfold nP; omega)
  have g2 : ∀ b i, own b ≠ 0 → (up2 I' 26 1 0) b i = I b i := fun b i hb => by
    have := nz b hb
    rw [up2_get, if_neg (by omega)]; exact fI b i (r1.2.2.1 b hb) (by unfold nP; omega)
  refine ⟨Wc, R, N.eq (fun j i hj => by rw [up2_get, if_neg (by omega)]), C.fr (fun b i hb => by have := nz' b (by omega); rw [up2_get, if_neg (by omega)]) (fun _ _ => rfl) Wc.2.1 Ext.rf, Or.inl h40, Or.inl (up2_same _ _ _ _), O, G, fun i hi => by rw [g _ _ (by omega) (by omega) (by omega)]; exact r3 i hi, r4.eq (fun b i hb => g _ _ (by omega) (by omega) (by omega)) (fun b i hb => fm _ _ (by unfold RM; omega)), r5.eq (fun b i hb => g _ _ (by omega) (by omega) (by omega)) (fun b i hb => fm _ _ (by unfold RM; omega)), ?_, ?_, r8.eq (fun b i hb => g _ _ (by omega) (by omega) (by omega)) (fun b i hb => fm _ _ (by unfold RM; omega)), r9.eq (fun b i hb => g _ _ (by omega) (by omega) (by omega)) (fun b i hb => fm _ _ (by unfold RM; omega)), fun s hs => (r10 s hs).fr3 ho (fun b i hb => g2 _ _ (by omega)) (fun b i hb => fT _ _ ?_) ex (fun b i hb => fm _ _ (by unfold SC at hb; unfold RM; omega))⟩
  · rw [g _ _ (by omega) (by omega) (by omega), fm _ _ (by unfold RM; omega)]; exact r6
  · rw [g _ _ (by omega) (by omega) (by omega), fm _ _ (by unfold RM; omega)]; exact r7
  · rcases hb with hb | hb
    · omega
    · have := nz b (by omega); omega
theorem st_line {ro : Nat} {I : HI} {J : HJ} {T F : HR} {L : HL} {IM : HI} {JM : HJ} (hI : Inv ro (I, J, T, F, L) IM JM) : St_line I J T F L ro IM JM (Inv ro) := by
  obtain ⟨own, h, a, B⟩ := Inv_el hI
  obtain ⟨W, R, N, C, b5, b6, b7⟩ := id B
  have n8 := W.2.1
  obtain ⟨IM1, fm, z0, z40, hR, hM1⟩ := M_line_ex W R
  obtain ⟨q0, f, g, q1, q2, q3, q4⟩ := (b7.2.2.2.2.2.2.2.2.2 0 (by omega)).1
  obtain ⟨n1, k1, l1, p1, v1, s1, -⟩ := id q3
  obtain ⟨n2, k2, l2, p2, v2, s2, -⟩ := id q4
  unfold St_line H_line Net_standInLine
  refine ⟨f, q1, s1.1, g, q2, s2.1, n1, k1, l1, p1, v1, s1, n2, k2, l2, p2, v2, s2, an a + 1, line_l2 (own := own) (ro := ro) (I0 := I) (T0 := T) (F := F) (L := L) W b7.1 q3 q4 (fun I' T' c S => ?_) (an a) 0 I T a (by omega) ⟨W, rfl, rfl, fun w hw => by omega, N, C, Fr.rf, fun _ _ _ => rfl⟩⟩
  obtain ⟨Wc, cn, cq, ln, Nc, Cc, fI, fT⟩ := S
  have B' : InvB own h c ro (up2 I' 26 1 0) T' F L IM1 := B.made Wc (hR c cn cq ln) Nc Cc b7.1 b7.2.1 (fun _ _ => rfl) Ext.rf (fun b i _ hn => fI b i hn) fT (fun b i hb => fm _ _ (by unfold RM at hb; unfold lnP; omega)) z40
  unfold Led_spoil H_worst
  refine ie (by decide) (it (by decide) (two_k B' (fun I2 lw k D hM => ⟨aq c ^ an c + 1, worst_c D _ none 0 (by omega) (fun x q => by cases q) ?_⟩)))
  have r5 := Wc.2.2.2.2.1
  rw [up2_id z0] at hM
  have fin : ∀ y, y = wov c h 0 → M_line IM (fun rb IM2 => y = rb ∧ Inv ro (I2, J, T', F, L) IM2 JM) := by
    intro y e
    refine hM1 _ ?_
    unfold M_worstRow
    refine hM (fun IM' DM B2 h0 => ⟨aq c ^ an c + 1, worst_m DM _ none 0 (by omega) (fun x q => by cases q) ?_⟩)
    rw [show wst (cts c h) (fun r => pop (wr c r)) (aq c ^ an c) none 0 = wo c h from rfl]
    have ew : wov c h 0 = match wo c h with
      | none => -1
      | some b => nI (pop (wr c b)) := rfl
    cases e2 : wo c h with
    | none => exact it rfl ⟨by rw [e, ew, e2], Inv_mk B2⟩
    | some b =>
      have hb : b < aq c ^ an c := wst_lt _ none 0 (by omega) (fun x q => by cases q) b e2
      simp only [show enc (some b) = nI b from rfl]
      rw [nx_nI (show b < 2 ^ 31 by omega), (DM.2.2.1 b hb).2.1]
      exact ie (nI_nm1 (by omega)) ⟨vin (by omega) (by omega), M_bits_k (wr8 DM.1 b) ⟨by rw [e, ew, e2], Inv_mk B2⟩⟩
  rw [show wst (cts c h) (fun r => pop (wr c r)) (aq c ^ an c) none 0 = wo c h from rfl]
  refine ie (by decide) ?_
  have ew : wov c h 0 = match wo c h with
    | none => -1
    | some b => nI (pop (wr c b)) := rfl
  cases e : wo c h with
  | none => exact it rfl (fin _ (by rw [ew, e]; rfl))
  | some b =>
    have hb : b < aq c ^ an c := wst_lt _ none 0 (by omega) (fun x q => by cases q) b e
    exact ie (nI_nm1 (n := b) (by omega)) (Led_wrongIn_k D.1 D.2.2.1 hb (fin _ (by rw [ew, e])))
