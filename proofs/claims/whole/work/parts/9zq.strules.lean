/-! rules: the invariant, and the call -/
theorem mdf_ok {P : RcT → Prop} : ∀ (l : List RuT) (g : Nat → Option RcT), (∀ w c, g w = some c → P c) → (∀ r ∈ l, P r.2) → ∀ w c, mdf g l w = some c → P c
  | [], g, hg, _ => hg
  | r :: l, g, hg, hl => mdf_ok l (upn g r.1 (some r.2)) (fun w c h => by
      by_cases e : w = r.1
      · rw [e, upn_same] at h
        simp only [Option.some.injEq] at h
        rw [← h]
        exact hl r List.mem_cons_self
      · rw [upn_ne _ _ e] at h
        exact hg w c h) (fun x hx => hl x (List.mem_cons_of_mem _ hx))
theorem aFol_WF {a : AN} {g : Nat → Option RcT} (W : WF a) (hc : ∀ w c, g w = some c → cdok (an a) c) : WF (aFol a g) := by
  obtain ⟨w1, w2, w3, w4, w5, w6⟩ := W
  refine ⟨w1, w2, w3, w4, w5, fun k hk => ?_⟩
  obtain ⟨g1, g2, g3, g4, g5⟩ := w6 k hk
  refine ⟨g1, g2, g3, ?_, ?_⟩
  · show (if (g k).isSome then 1 else akd a k) = 1 ∧ cdok (an a) ((g k).getD (acd a k)) ∨ (if (g k).isSome then 1 else akd a k) = if avw a k ≤ 1024 then 0 else 2
    cases hg : g k with
    | none => exact g4
    | some c => exact Or.inl ⟨rfl, hc k c hg⟩
  · show (if (g k).isSome then 1 else akd a k) = 0 → _
    cases hg : g k with
    | none => exact g5
    | some c => intro q; simp at q
theorem CN_fol {I : HI} {r : Nat} {b : AN} {g : Nat → Option RcT} (N : CN I r b) : CN I r (aFol b g) := by
  obtain ⟨e0, e1, e2, e3, e4, e5, e6, e7, e8, e9⟩ := N
  refine ⟨e0, e1, e2, e3, e4, e5, e6, e7, e8, fun k hk h0 v hv => ?_⟩
  have h0 : (if (g k).isSome then 1 else akd b k) = 0 := h0
  cases hg : g k with
  | none => rw [hg] at h0; exact e9 k hk h0 v hv
  | some c => rw [hg] at h0; simp at h0
theorem Frep.f28 {I : HI} {F : HR} {L : HL} {own : Nat → Nat} {f : Nat} {c : RcT} {v : Option Nat} (h : Frep I F L own f c) (nz : ∀ b, own b ≠ 0 → 56 ≤ b) : Frep I (up2 F 28 3 v) L own f c := by
  obtain ⟨n, k, l, q, v', h1, o1, h2⟩ := h
  have hf := nz f (by omega)
  refine ⟨n, k, l, q, v', ?_, o1, h2⟩
  unfold FrmSh at h1 ⊢
  rw [up2_ne _ _ _ (show f ≠ 28 by omega)]
  exact h1
theorem CT.f28 {I : HI} {T F : HR} {L : HL} {own : Nat → Nat} {r : Nat} {a : AN} {v : Option Nat} (C : CT I T F L own r a) (nz : ∀ b, own b ≠ 0 → 56 ≤ b) : CT I T (up2 F 28 3 v) L own r a := by
  obtain ⟨h1, h2, h3⟩ := C
  refine ⟨h1, h2, fun w hw => ?_⟩
  rcases h3 w hw with h | ⟨h, f, h4, h5⟩
  · exact Or.inl h
  · exact Or.inr ⟨h, f, h4, h5.f28 nz⟩
theorem Slot1.f28 {own : Nat → Nat} {I : HI} {T F : HR} {L : HL} {IM : HI} {s : Nat} {v : Option Nat} (h : Slot1 own I T F L IM s) (nz : ∀ b, own b ≠ 0 → 56 ≤ b) : Slot1 own I T (up2 F 28 3 v) L IM s := by
  obtain ⟨⟨q0, f, g, q1, q2, q3, q4⟩, h⟩ := h
  refine ⟨⟨q0, f, g, by rw [up2_ne _ _ _ (by omega)]; exact q1, by rw [up2_ne _ _ _ (by omega)]; exact q2, q3.f28 nz, q4.f28 nz⟩, ?_⟩
  rcases h with h | ⟨r, b, h1, h2, h3, h4, h5, h6, h7, h8⟩
  · exact Or.inl h
  · refine Or.inr ⟨r, b, h1, ?_, h3, h4, h5.f28 nz, h6, h7, h8⟩
    unfold NetSh at h2 ⊢
    rw [up2_ne _ _ _ (show r ≠ 28 by omega)]
    exact h2
theorem InvB.f28 {own h : Nat → Nat} {a : AN} {ro : Nat} {I : HI} {T F : HR} {L : HL} {IM : HI} (B : InvB own h a ro I T F L IM) : InvB own h a ro I T (up2 F 28 3 (some 34)) L IM := by
  obtain ⟨b1, b2, b3, b4, b5, b6, r1, r2, r3, r4, r5, r6, r7, r8, r9, r10⟩ := B
  have nz := nz_own r1
  exact ⟨b1, b2, b3, b4.f28 nz, b5, b6, r1, geo28 r2, r3, r4, r5, r6, r7, r8, r9, fun s hs => (r10 s hs).f28 nz⟩
theorem InvB.rul {own own' h : Nat → Nat} {a c : AN} {ro : Nat} {I I' : HI} {T T' F F' : HR} {L L' : HL} {IM IM' : HI} (B : InvB own h a ro I T F L IM) (Wc : WF c) (R : RepM IM' c) (N : CN I' 1 c) (C : CT I' T' F' L' own' 1 c) (hw : WorI c IM') (hl : LedI c h I') (O : Own own' ro L') (G : Geo F' L') (ho : ∀ b, own b ≠ 0 → own' b = own b) (ex : Ext F L F' L') (fI : ∀ b i, (∃ p ∈ L, p.1 = b) → b ≠ 28 → b ≠ 31 → b ≠ 32 → b ≠ 33 → b ≠ 26 → ¬ (b = 0 ∧ i = 8) → I' b i = I b i) (fT : ∀ b i, b ≠ 7 → b ≠ 29 → T' b i = T b i) (fm : ∀ b i, RM b i → ¬ (b = 0 ∧ (i = 16 ∨ i = 18)) → b ≠ 10 → IM' b i = IM b i) (z8 : I' 0 8 = 0) (z16 : IM' 0 16 = 0) (e1 : I' 28 1 = IM' 0 18) : InvB own' h c ro I' T' F' L' IM' := by
  obtain ⟨b1, b2, b3, b4, b5, b6, r1, r2, r3, r4, r5, r6, r7, r8, r9, r10⟩ := B
  have nz := nz_own r1
  have g : ∀ b i, b < 56 → b ≠ 28 → b ≠ 31 → b ≠ 32 → b ≠ 33 → b ≠ 26 → ¬ (b = 0 ∧ i = 8) → I' b i = I b i := fun b i h1 => fI b i (geo_all r2 b h1)
  have g2 : ∀ b i, own b ≠ 0 → I' b i = I b i := fun b i hb => by
    have := nz b hb
    exact fI b i (r1.2.2.1 b hb) (by omega) (by omega) (by omega) (by omega) (by omega) (by omega)
  refine ⟨Wc, R, N, C, hw, hl, O, G, fun i hi => ?_, r4.eq (fun b i hb => g _ _ (by omega) (by omega) (by omega) (by omega) (by omega) (by omega) (by omega)) (fun b i hb => fm _ _ (by unfold RM; omega) (by omega) (by omega)), ⟨0, z8, z16, by omega, fun k hk => by omega⟩, e1, ?_, r8.eq (fun b i hb => g _ _ (by omega) (by omega) (by omega) (by omega) (by omega) (by omega) (by omega)) (fun b i hb => fm _ _ (by unfold RM; omega) (by omega) (by omega)), r9.eq (fun b i hb => g _ _ (by omega) (by omega) (by omega) (by omega) (by omega) (by omega) (by omega)) (fun b i hb => fm _ _ (by unfold RM; omega) (by omega) (by omega)), fun s hs => (r10 s hs).fr3 ho (fun b i hb => g2 _ _ (by omega)) (fun b i hb => ?_) ex (fun b i hb => fm _ _ (by unfold SC at hb; unfold RM; omega) (by unfold SC at hb; omega) (by unfold SC at hb; omega))⟩
  · rw [g _ _ (by omega) (by omega) (by omega) (by omega) (by omega) (by omega) (by omega)]; exact r3 i hi
  · rw [g _ _ (by omega) (by omega) (by omega) (by omega) (by omega) (by omega) (by omega), fm _ _ (by unfold RM; omega) (by omega) (by omega)]; exact r7
  · rcases hb with hb | hb
    · exact fT _ _ (by omega) (by omega)
    · have := nz b (by omega)
      exact fT _ _ (by omega) (by omega)
theorem st_rules {ro : Nat} {x1 : Int32} {I : HI} {J : HJ} {T F : HR} {L : HL} {IM : HI} {JM : HJ} (hI : Inv ro (I, J, T, F, L) IM JM) : St_rules x1 I J T F L ro IM JM (Inv ro) := by
  obtain ⟨own, h, a, B⟩ := Inv_el hI
  have B0 := B
  have B28 := B.f28
  obtain ⟨W, R, N, C, b5, b6, b7⟩ := B
  have C28 := B28.2.2.2.1
  have n8 := W.2.1
  have n1 := W.1
  have O := b7.1
  have nz := nz_own O
  obtain ⟨tt, t1, t2, t3, t4⟩ := b7.2.2.2.2.1
  unfold St_rules L_rules H_rules
  rcases xcase x1 (n := tt) (by omega) with ⟨m, hm, rfl⟩ | hx
  · refine ie (nI_pos (by omega)) (it (by rw [t1]; exact nI_le hm (by omega)) ?_)
    have hby : ∀ k, k < m → I 34 k = nI (nx (I 34 k)) ∧ IM 10 k = nI (nx (I 34 k)) ∧ nx (I 34 k) < 256 := fun k hk => by
      obtain ⟨b, b1, b2, b3⟩ := t4 k (by omega)
      rw [b2, nx_nI (by omega)]
      exact ⟨rfl, b3, b1⟩
    have g8 : ∀ b i, ¬ (b = 0 ∧ i = 8) → (up2 I 0 8 0) b i = I b i := fun b i hb => by rw [up2_get, if_neg hb]
    refine c_read (t := fun k => nx (I 34 k)) (m := m) (n := an a) (own := own) (ro := ro) n1 n8 O b7.2.1 (by omega) (fun k hk => ⟨(g8 34 k (by omega)).trans (hby k hk).1, (hby k hk).2.2⟩) rfl ((g8 1 0 (by omega)).trans N.1) ?_
    have hmr : ∀ Q : Int32 → HI → HJ → Prop, MRQ IM a Q (spRules (fun k => nx (I 34 k)) m (an a) 16 (tS (fun k => nx (I 34 k)) m 0)) → M_rules IM JM (nI m) Q := fun Q K => m_rules W R t2 hm t3 (fun k hk => ⟨(hby k hk).2.1, (hby k hk).2.2⟩) K
    cases hq : spRules (fun k => nx (I 34 k)) m (an a) 16 (tS (fun k => nx (I 34 k)) m 0) with
    | error e =>
      rw [hq] at hmr
      intro own' I' T' F' L' hE h3 e0 e1
      obtain ⟨q1, q2, q3, q4, q5, q6⟩ := hE
      have he := erf_rules 16 _ _ hq
      have mro := q1.2.2.2.1
      refine ⟨q2, ie (by rw [e0]; exact nI_ne0 (by omega) (by omega)) ⟨mro, mro, hmr _ (fun IM' JM' f z0 z16 z18 => ?_)⟩⟩
      have fI : ∀ b i, (∃ p ∈ L, p.1 = b) → b ≠ 28 → b ≠ 31 → b ≠ 32 → b ≠ 33 → ¬ (b = 0 ∧ i = 8) → I' b i = I b i := fun b i h1 h2 h3 h4 h5 h6 => (q5 b i h1 h2 h3 h4 h5).trans (g8 b i h6)
      have fo : ∀ b i, own b ≠ 0 → I' b i = I b i := fun b i hb => by
        have := nz b hb
        exact fI b i (O.2.2.1 b hb) (by omega) (by omega) (by omega) (by omega) (by omega)
      have fs : ∀ b i, b < 56 → b ≠ 28 → b ≠ 31 → b ≠ 32 → b ≠ 33 → ¬ (b = 0 ∧ i = 8) → I' b i = I b i := fun b i h1 => fI b i (geo_all b7.2.1 b h1)
      refine ⟨z0, fun _ => ?_, Inv_mk (own := own') (h := h) (a := a) (B28.rul W (R.eq (fun b i hb => f b i (by omega) (by omega))) (N.eq (fun j i hj => fs _ _ (by omega) (by omega) (by omega) (by omega) (by omega) (by omega))) ((C28.fr (fun b i hb => fo b i (by omega)) (fun w _ => q6 _ _ (by omega)) n8 q4).own q3 (fun j hj => by rw [q1.1 _ (by omega)]; decide)) (b5.eq (fun b i hb => f b i (by omega) (by omega))) (b6.eq (fun b i hb => fs b i (by omega) (by omega) (by omega) (by omega) (by omega) (by omega))) q1 q2 q3 q4 (fun b i h1 h2 h3 h4 h5 _ h7 => fI b i h1 h2 h3 h4 h5 h7) (fun b i _ hb => q6 b i hb) (fun b i h1 h2 h3 => f b i (by unfold RM at h1; omega) (by unfold RM at h1; omega)) ?_ z16 (e1.trans z18.symm))⟩
      · rw [e0]
        exact up2_same J ro 0 _
      · rw [q5 0 8 (geo_all b7.2.1 0 (by omega)) (by omega) (by omega) (by omega) (by omega), up2_same]
    | ok l =>
      rw [hq] at hmr
      have hok := spRules_ok n1 (by omega) 16 _ l (tS_le _ (Nat.zero_le _)) hq
      intro own' I' T' F' L' hE h3 e0 e1 hM
      obtain ⟨q1, q2, q3, q4, q5, q6⟩ := hE
      have mro := q1.2.2.2.1
      have nz' := nz_own q1
      have fI : ∀ b i, (∃ p ∈ L, p.1 = b) → b ≠ 28 → b ≠ 31 → b ≠ 32 → b ≠ 33 → ¬ (b = 0 ∧ i = 8) → I' b i = I b i := fun b i h1 h2 h3 h4 h5 h6 => (q5 b i h1 h2 h3 h4 h5).trans (g8 b i h6)
      have fo : ∀ b i, own b ≠ 0 → I' b i = I b i := fun b i hb => by
        have := nz b hb
        exact fI b i (O.2.2.1 b hb) (by omega) (by omega) (by omega) (by omega) (by omega)
      have fs : ∀ b i, b < 56 → b ≠ 28 → b ≠ 31 → b ≠ 32 → b ≠ 33 → ¬ (b = 0 ∧ i = 8) → I' b i = I b i := fun b i h1 => fI b i (geo_all b7.2.1 b h1)
      refine ⟨q2, it e0 (c_follow (n := an a) ((fs 1 0 (by omega) (by omega) (by omega) (by omega) (by omega) (by omega)).trans N.1) n8 (fun w f hw hf => ?_) (fun T2 k1 k2 => ?_))⟩
      · rcases hM w hw with ⟨_, x2⟩ | ⟨c, f', _, x2, _, x4⟩
        · rw [x2] at hf; cases hf
        · rw [x2] at hf; cases hf; exact x4
      unfold Led_spoil
      refine ⟨mro, mro, hmr _ (fun IM' JM' f z0 z16 z18 z40 R' => ?_)⟩
      have u26 : ∀ b i, b ≠ 26 → (up2 I' 26 1 0) b i = I' b i := fun b i hb => by rw [up2_ne _ _ _ hb]
      have hg : ∀ w c, mdf (fun _ => none) l w = some c → cdok (an a) c := mdf_ok l _ (fun w c hc => by cases hc) (fun r hr => (hok r hr).2.1)
      have CF : CT (up2 I' 26 1 0) T2 F' L' own' 1 (aFol a (mdf (fun _ => none) l)) := by
        obtain ⟨d1, d2, d3⟩ := C28
        refine ⟨fun j hj => by rw [q1.1 _ (by omega)]; decide, fun w f hw hf => ?_, fun w hw => ?_⟩
        · have hf : T2 7 w = some f := hf
          by_cases hwn : w < an a
          · rw [k2 w hwn] at hf
            rcases hM w hw with ⟨_, x2⟩ | ⟨c, f', _, x2, _, x4⟩
            · rw [x2] at hf
              simp only [Option.none_or] at hf
              rw [q6 7 w (by omega)] at hf
              exact q4.1 _ (d2 w f hw hf)
            · rw [x2] at hf
              simp only [Option.some_or, Option.some.injEq] at hf
              rw [← hf]
              exact x4
          · rw [k1 7 w (by omega), q6 7 w (by omega)] at hf
            exact q4.1 _ (d2 w f hw hf)
        · have hw : w < an a := hw
          show (if (mdf (fun _ => none) l w).isSome then 1 else akd a w) ≠ 1 ∧ T2 7 w = none ∨ (if (mdf (fun _ => none) l w).isSome then 1 else akd a w) = 1 ∧ ∃ f, T2 7 w = some f ∧ Frep (up2 I' 26 1 0) F' L' own' f ((mdf (fun _ => none) l w).getD (acd a w))
          rw [k2 w hw]
          rcases hM w (by omega) with ⟨x1, x2⟩ | ⟨c, f', x1, x2, x3, x4⟩
          · rw [x1, x2, q6 7 w (by omega)]
            rcases d3 w hw with y | ⟨y, f, y1, y2⟩
            · exact Or.inl y
            · refine Or.inr ⟨y, f, y1, ((y2.fr (fun b i hb => ?_) q4).own q3)⟩
              have := nz b (by omega)
              rw [u26 b i (by omega)]
              exact fo b i (by omega)
          · rw [x1, x2]
            exact Or.inr ⟨rfl, f', rfl, x3.fr (fun b i hb => u26 b i (by have := nz' b (by omega); omega)) Ext.rf⟩
      refine ⟨z0, fun _ => ?_, Inv_mk (own := own') (h := h) (a := aFol a (mdf (fun _ => none) l)) (B28.rul (aFol_WF W hg) R' (CN_fol (N.eq (fun j i hj => by rw [u26 _ _ (by omega)]; exact fs _ _ (by omega) (by omega) (by omega) (by omega) (by omega) (by omega)))) CF (Or.inl z40) (Or.inl (up2_same _ _ _ _)) q1 q2 q3 q4 (fun b i h1 h2 h3 h4 h5 h6 h7 => by rw [u26 b i h6]; exact fI b i h1 h2 h3 h4 h5 h7) (fun b i hb hb2 => by rw [k1 b i (by omega)]; exact q6 b i hb2) (fun b i h1 h2 h3 => f b i (by unfold RM at h1; omega) (by unfold RM at h1; omega) (by unfold RM at h1; omega)) ?_ z16 ?_)⟩
      · rw [u26 28 0 (by omega), e0]
        exact up2_same J ro 0 _
      · rw [u26 0 8 (by omega), q5 0 8 (geo_all b7.2.1 0 (by omega)) (by omega) (by omega) (by omega) (by omega), up2_same]
      · rw [u26 28 1 (by omega), e1, z18]
  · have mro := O.2.2.2.1
    have hM : M_rules_b22 (up2 IM 0 0 0) JM x1 (fun rb IM2 JM2 => M_thrown IM2 (fun rt => rt = 1 ∧ ((1 : Int32) = 0 → J ro 0 = Int32.toInt64 rb) ∧ Inv ro (I, J, T, F, L) IM2 JM2)) := by
      unfold M_rules_b22 M_rules_b23
      exact M_right_n (up00 _ _) (it rfl (fin_no B0 (Fr01 IM) (up00 _ _)))
    have key : H_rules_b12 I T F L 2080 (fun r I' T' F' L' => (ro, 4, 1) ∈ L' ∧ ((ro, 4, 1) ∈ L' ∧ M_rules IM JM x1 (fun rb IM2 JM2 => M_thrown IM2 (fun rt => rt = 0 ∧ ((0 : Int32) = 0 → (up2 J ro 0 (Int32.toInt64 r)) ro 0 = Int32.toInt64 rb) ∧ Inv ro (I', up2 J ro 0 (Int32.toInt64 r), T', F', L') IM2 JM2)))) (fun I' T' F' L' => (ro, 4, 1) ∈ L' ∧ M_rules IM JM x1 (fun rb IM2 JM2 => M_thrown IM2 (fun rt => rt = 1 ∧ ((1 : Int32) = 0 → J ro 0 = Int32.toInt64 rb) ∧ Inv ro (I', J, T', F', L') IM2 JM2))) := by
      unfold H_rules_b12
      refine ⟨mro, ?_⟩
      unfold M_rules
      rcases hx with hx | ⟨h0, hx⟩
      · exact it hx hM
      · exact ie h0 (it (by rw [up2_idx _ _ _ (by decide), t2]; exact hx) hM)
    rcases hx with hx | ⟨h0, hx⟩
    · exact it hx key
    · exact ie h0 (ie (by rw [t1]; exact nle_of_lt hx) key)
