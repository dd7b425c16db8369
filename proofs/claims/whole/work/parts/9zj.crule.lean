/-! rules: the class's rule -/
def CR (t : Nat → Nat) (m n : Nat) (I : HI) (s : Nat) : Prop := Txt t m I ∧ s ≤ m ∧ I 28 6 = nI (tE t m s) ∧ I 28 7 = nI s ∧ I 28 8 = nI (tK t m s) ∧ (tK t m s = 131 → I 28 9 = nI (tV t m s)) ∧ I 28 5 = nI n ∧ n ≤ 8
theorem CS.cr {t : Nat → Nat} {m n s c : Nat} {I : HI} (h : CS t m n I s c) : CR t m n I s := ⟨h.1, h.2.1, h.2.2.1, h.2.2.2.1, h.2.2.2.2.1, h.2.2.2.2.2.1, h.2.2.2.2.2.2.1, h.2.2.2.2.2.2.2.1⟩
theorem CR.ne {t : Nat → Nat} {m n s : Nat} {I : HI} (h : CR t m n I s) : I 28 8 ≠ 130 := by
  have hk := tK_ne t m s
  rw [h.2.2.2.2.1]
  exact fun e => hk.1 ((nI_eq (by omega) (by decide)).mp (show nI _ = nI 130 from e))
theorem rNext {t : Nat → Nat} {m n s : Nat} {I : HI} {Q : HI → Prop} (h : CR t m n I s) (K : ∀ I', FrT I I' → CR t m n I' (nxt t m s) → Q I') : Rd_next I Q := by
  have hne := h.ne
  obtain ⟨h1, h2, h3, h4, h5, h6, h7, h8⟩ := h
  exact Rd_next_k h1 h3 (tE_le t h2) hne (fun I' f e6 e7 e8 e9 => K I' f ⟨h1.fr f, nxt_le t h2, e6, e7, e8, e9, (f 28 5 (by omega)).trans h7, h8⟩)
theorem rStop {t : Nat → Nat} {m n s f : Nat} {I : HI} {Q : HI → Prop} (h : CR t m n I s) (K : ∀ I', FrR I I' → I' 28 8 = 130 → I' 28 0 = nI f → I' 28 1 = nI s → Q I') : Rd_stop I (nI f) Q := by
  have hne := h.ne
  obtain ⟨h1, h2, h3, h4, h5, h6, h7, h8⟩ := h
  unfold Rd_stop
  refine ie hne (K _ (fun a i n1 n2 n3 n4 => ?_) ?_ ?_ ?_)
  · rw [up2_get, if_neg (by omega), up2_get, if_neg (by omega), up2_get, if_neg (by omega)]
  · rw [up2_same]
  · rw [up2_idx _ _ _ (by decide), up2_idx _ _ _ (by decide), up2_same]
  · rw [up2_idx _ _ _ (by decide), up2_same, up2_idx _ _ _ (by decide), h4]
def WCQ (t : Nat → Nat) (m n : Nat) (I : HI) (Q : Int32 → HI → Prop) (r : Except (Nat × Nat) (Nat × Nat)) : Prop := match r with
  | .error e => ∀ x I', FrR I I' → I' 28 8 = 130 → I' 28 0 = nI e.1 → I' 28 1 = nI e.2 → Q x I'
  | .ok p => ∀ I', FrT I I' → CR t m n I' p.1 → Q (nI p.2) I'
theorem rWear {t : Nat → Nat} {m n s : Nat} {I : HI} {Q : Int32 → HI → Prop} (h : CR t m n I s) (K : WCQ t m n I Q (spWear t m n s)) : Rd_readNumber I (I 28 5) Q := by
  have hk := tK_ne t m s
  have e8 := h.2.2.2.2.1
  have h5 := h.2.2.2.2.2.2.1
  have hn8 := h.2.2.2.2.2.2.2
  unfold Rd_readNumber
  unfold spWear at K
  refine ic (fun e => ?_) (fun e => ?_)
  · have e1 := (nk hk.2 e8 (c := 131) (by decide)).mp e
    have hv := tV_le e1
    have h9 := h.2.2.2.2.2.1 e1
    rw [if_pos e1] at K
    rw [h9, h5]
    refine ic (fun e2 => ?_) (fun e2 => ?_)
    · rw [if_neg (show ¬ tV t m s < n by have := (nI_leI (by omega) (by omega)).mp e2; omega)] at K
      unfold Rd_readNumber_b26
      exact it e (rStop (f := 4) h (fun I' g a b c => K 0 I' g a b c))
    · rw [if_pos (show tV t m s < n by rcases Nat.lt_or_ge (tV t m s) n with q | q; exact q; exact absurd (nI_le q (by omega)) e2)] at K
      exact rNext h (fun I' f hC => K I' f hC)
  · have e1 : tK t m s ≠ 131 := fun e1 => e (e8.trans (by rw [e1]; rfl))
    rw [if_neg e1] at K
    unfold Rd_readNumber_b26
    refine ie e (ic (fun e2 => ?_) (fun e2 => ?_))
    · have e3 := (nk hk.2 e8 (c := 132) (by decide)).mp e2
      rw [if_pos e3] at K
      exact rStop (f := 2) h (fun I' g a b c => K 0 I' g a b c)
    · have e3 : tK t m s ≠ 132 := fun e3 => e2 (e8.trans (by rw [e3]; rfl))
      rw [if_neg e3] at K
      exact rStop (f := 1) h (fun I' g a b c => K 0 I' g a b c)
theorem copy_k {I : HI} {T F : HR} {L : HL} {r0 N : Nat} {x1 : Int32} {Q : Nat → HI → HR → HR → HL → Prop} (hx : x1 = nI N) (hN : N < 500) (hr : ∃ p ∈ L, p.1 = r0) (K : ∀ e I', (∀ p ∈ L, p.1 < e) → (∀ b i, b ≠ e → I' b i = I b i) → (∀ i, i < N → I' e i = I r0 i) → Q e I' T F (L ++ [(e, 0, N)])) : Jd_copyOf I T F L r0 500 x1 Q := by
  subst hx
  unfold Jd_copyOf
  refine ie (fun e => ?_) (fun e he => ⟨nI_pos (by omega), by rw [nx_nI (by omega)]; omega, ?_⟩)
  · have := (nI_eq (by omega) (by decide)).mp (show nI N = nI 500 from e)
    omega
  · unfold Jd_min
    refine it (show nI N < nI 500 from nI_lt hN (by decide)) ?_
    dsimp only
    rw [nx_nI (by omega)]
    refine ⟨nI_pos (by omega), by omega, by omega, K e _ he (fun b i hb => ?_) (fun i hi => ?_)⟩
    · rw [cp2_ne hb, up1_ne _ _ hb]
    · obtain ⟨p, hp, e0⟩ := hr
      have := he p hp
      rw [cp2_in hi, up1_ne _ _ (by omega)]
theorem ltm {L : HL} {x : Nat × Nat × Nat} {q : Nat} (h : ∀ p ∈ L ++ [x], p.1 < q) : x.1 < q := (ltl h).2
theorem Frm_rule_k {I : HI} {T F : HR} {L : HL} {own : Nat → Nat} {ro b N w : Nat} {c : RcT} {x1 x2 : Int32} {Q : HI → HR → HR → HL → Prop} (O : Own own ro L) (hG : Geo F L) (h3 : F 28 3 = some 34) (hN : I 28 13 = nI N) (hN2 : N < 500) (hb : b = 5 + 4 * N) (eN : N = (c.1.getD []).length + c.2.length) (hx1 : x1 = nI w) (hw : w < 8) (hx2 : x2 = nI (c.1.getD []).length) (hP : ∀ (I' : HI) (k l q : Nat), (∀ i, i < N → I' k i = I 31 i ∧ I' l i = I 32 i ∧ I' q i = I 33 i) → crel I' k l q (c.1.getD []) 0 [] ∧ crel I' k l q c.2 (c.1.getD []).length []) (hQ : ∀ f I' F' L' own', FrmM own ro I F L c f I' F' L' own' → F' 28 3 = some 34 → Geo F' L' → Q I' (up2 T 29 w (some f)) F' L') :
    ∀ eq13, (∀ p ∈ L, p.1 < eq13) →
    0 + 5 ≤ b ∧
    0 + 5 + (nx ((up1 I eq13 (fun _ => 0)) 28 13)) ≤ b ∧
    Jd_copyOf (up1 I eq13 (fun _ => 0)) T (up1 F eq13 (fun _ => none)) (L ++ [(eq13, 8, 0)]) 31 500 ((up1 I eq13 (fun _ => 0)) 28 13) (fun eq17 I18 T19 F20 L21 =>
    Geo F20 L21 ∧
    F20 28 3 = some 34 ∧
    (eq13, 8, 0) ∈ L21 ∧
    (eq17, 0, nx ((up1 I eq13 (fun _ => 0)) 28 13)) ∈ L21 ∧
    0 + 5 + (nx ((up1 I eq13 (fun _ => 0)) 28 13)) + (nx (I18 28 13)) ≤ b ∧
    Jd_copyOf I18 T19 F20 L21 32 500 (I18 28 13) (fun eq24 I25 T26 F27 L28 =>
    Geo F27 L28 ∧
    F27 28 3 = some 34 ∧
    (eq17, 0, nx ((up1 I eq13 (fun _ => 0)) 28 13)) ∈ L28 ∧
    (eq13, 8, 0) ∈ L28 ∧
    (eq24, 0, nx (I18 28 13)) ∈ L28 ∧
    0 + 5 + (nx ((up1 I eq13 (fun _ => 0)) 28 13)) + (nx (I18 28 13)) + (nx (I25 28 13)) ≤ b ∧
    Jd_copyOf I25 T26 F27 L28 33 500 (I25 28 13) (fun eq31 I32 T33 F34 L35 =>
    Geo F34 L35 ∧
    F34 28 3 = some 34 ∧
    (eq24, 0, nx (I18 28 13)) ∈ L35 ∧
    (eq17, 0, nx ((up1 I eq13 (fun _ => 0)) 28 13)) ∈ L35 ∧
    (eq13, 8, 0) ∈ L35 ∧
    (eq31, 0, nx (I25 28 13)) ∈ L35 ∧
    0 + 5 + (nx ((up1 I eq13 (fun _ => 0)) 28 13)) + (nx (I18 28 13)) + (nx (I25 28 13)) + (nx ((up1 I eq13 (fun _ => 0)) 28 13)) ≤ b ∧
    Frm_init I32 T33 F34 L35 eq13 eq17 (nx ((up1 I eq13 (fun _ => 0)) 28 13)) eq24 (nx (I18 28 13)) eq31 (nx (I25 28 13)) x2 (fun I38 T39 F40 L41 =>
    Geo F40 L41 ∧
    F40 28 3 = some 34 ∧
    (eq13, 8, 0) ∈ L41 ∧
    vp_in x1 8 ∧
    Q I38 (up2 T39 29 (nx x1) (some eq13)) F40 L41)))) := by
  intro f hf
  have m28 := geo_all hG 55 (by decide)
  have lt28 : ∀ z, (∀ p ∈ L, p.1 < z) → 55 < z := fun z hz => by
    obtain ⟨p, hp, e⟩ := m28
    have := hz p hp
    omega
  have f28 := lt28 f hf
  have g1 : (up1 I f (fun _ => 0)) 28 13 = nI N := by rw [up1_ne _ _ (by omega)]; exact hN
  rw [g1, nx_nI (show N < 2 ^ 31 by omega)]
  have x1F : Ext F L (up1 F f (fun _ => none)) (L ++ [(f, 8, 0)]) := Ext.up1 _ _ hf
  have G1 := geo_ext x1F hG
  have h31 : (up1 F f (fun _ => none)) 28 3 = some 34 := by rw [up1_ne _ _ (by omega)]; exact h3
  refine ⟨by omega, by omega, copy_k rfl hN2 (geo_all G1 31 (by decide)) (fun k I2 hk a2 c2 => ?_)⟩
  obtain ⟨hk1, fk⟩ := ltl hk
  have k28 := lt28 k hk1
  dsimp only at fk
  have G2 := geo_ext (Ext.app (F := up1 F f (fun _ => none)) (L := L ++ [(f, 8, 0)]) [(k, 0, N)]) G1
  have g2 : I2 28 13 = nI N := by rw [a2 _ _ (by omega)]; exact g1
  try dsimp only
  rw [g2, nx_nI (show N < 2 ^ 31 by omega)]
  refine ⟨G2, h31, by simp, by simp, by omega, copy_k rfl hN2 (geo_all G2 32 (by decide)) (fun l I3 hl a3 c3 => ?_)⟩
  obtain ⟨hl1, kl⟩ := ltl hl
  obtain ⟨hl2, fl⟩ := ltl hl1
  have l28 := lt28 l hl2
  dsimp only at kl fl
  have G3 := geo_ext (Ext.app (F := up1 F f (fun _ => none)) (L := L ++ [(f, 8, 0)] ++ [(k, 0, N)]) [(l, 0, N)]) G2
  have g3 : I3 28 13 = nI N := by rw [a3 _ _ (by omega)]; exact g2
  try dsimp only
  rw [g3, nx_nI (show N < 2 ^ 31 by omega)]
  refine ⟨G3, h31, by simp, by simp, by simp, by omega, copy_k rfl hN2 (geo_all G3 33 (by decide)) (fun q I4 hq a4 c4 => ?_)⟩
  obtain ⟨hq1, lq⟩ := ltl hq
  obtain ⟨hq2, kq⟩ := ltl hq1
  obtain ⟨hq3, fq⟩ := ltl hq2
  have q28 := lt28 q hq3
  dsimp only at lq kq fq
  have G4 := geo_ext (Ext.app (F := up1 F f (fun _ => none)) (L := L ++ [(f, 8, 0)] ++ [(k, 0, N)] ++ [(l, 0, N)]) [(q, 0, N)]) G3
  refine ⟨G4, h31, by simp, by simp, by simp, by simp, by omega, fun v hv => ⟨by omega, ?_⟩⟩
  obtain ⟨hv1, qv⟩ := ltl hv
  obtain ⟨hv2, lv⟩ := ltl hv1
  obtain ⟨hv3, kv⟩ := ltl hv2
  obtain ⟨hv4, fv⟩ := ltl hv3
  dsimp only at qv lv kv fv
  have hext : Ext F L (up2 (up2 (up2 (up2 (up1 F f (fun _ => none)) f 0 (some k)) f 1 (some l)) f 2 (some q)) f 3 (some v)) (((((L ++ [(f, 8, 0)]) ++ [(k, 0, N)]) ++ [(l, 0, N)]) ++ [(q, 0, N)]) ++ [(v, 0, N)]) := by
    refine ⟨fun p hp => by simp [hp], fun p hp => ?_⟩
    have hne : p.1 ≠ f := Nat.ne_of_lt (hf p hp)
    rw [up2_ne _ _ _ hne, up2_ne _ _ _ hne, up2_ne _ _ _ hne, up2_ne _ _ _ hne, up1_ne _ _ hne]
  have hsh : FrmSh (up2 (up2 (up2 (up2 (up1 F f (fun _ => none)) f 0 (some k)) f 1 (some l)) f 2 (some q)) f 3 (some v)) (((((L ++ [(f, 8, 0)]) ++ [(k, 0, N)]) ++ [(l, 0, N)]) ++ [(q, 0, N)]) ++ [(v, 0, N)]) f N k l q v := by
    unfold FrmSh
    simp [up2_get]
  have h32 : (up2 (up2 (up2 (up2 (up1 F f (fun _ => none)) f 0 (some k)) f 1 (some l)) f 2 (some q)) f 3 (some v)) 28 3 = some 34 := by
    rw [up2_ne _ _ _ (by omega), up2_ne _ _ _ (by omega), up2_ne _ _ _ (by omega), up2_ne _ _ _ (by omega)]
    exact h31
  have G5 := geo_ext hext hG
  refine ⟨G5, h32, by simp, by rw [hx1]; exact vin (by omega) (by decide), ?_⟩
  obtain ⟨p1, p2, p3, p4, p5, p6, p7, p8⟩ := own5_ok (v := v) O hf hk1 hl2 hq3 hv4 (by omega) hext.1 ⟨_, hsh.1, rfl⟩ ⟨_, hsh.2.2.1, rfl⟩ ⟨_, hsh.2.2.2.2.1, rfl⟩ ⟨_, hsh.2.2.2.2.2.2.1, rfl⟩ ⟨_, hsh.2.2.2.2.2.2.2.2, rfl⟩
  rw [hx1, nx_nI (by omega)]
  have a5 : ∀ b i, b ≠ f → b ≠ v → (up1 (up2 I4 f 4 x2) v (fun _ => 0)) b i = I4 b i := fun b i h1 h2 => by rw [up1_ne _ _ h2, up2_ne _ _ _ h1]
  have hcr := hP (up1 (up2 I4 f 4 x2) v (fun _ => 0)) k l q (fun i hi => ⟨?_, ?_, ?_⟩)
  · refine hQ f _ _ _ _ ⟨p1, p2, hext, ?_, ⟨N, k, l, q, v, hsh, p4, p5, p6, p7, p8, eN, ?_, hcr.1, hcr.2⟩, hsh.1⟩ h32 G5
    · rintro b i ⟨p, hp, rfl⟩
      have h1 := hf p hp
      have h2 := hk1 p hp
      have h3 := hl2 p hp
      have h4 := hq3 p hp
      have h5 := hv4 p hp
      rw [a5 _ _ (by omega) (by omega), a4 _ _ (by omega), a3 _ _ (by omega), a2 _ _ (by omega), up1_ne _ _ (by omega)]
    · rw [up1_ne _ _ (by omega), up2_same]; exact hx2
  · rw [a5 _ _ (by omega) (by omega), a4 _ _ (by omega), a3 _ _ (by omega), c2 i hi, up1_ne _ _ (by omega)]
  · rw [a5 _ _ (by omega) (by omega), a4 _ _ (by omega), c3 i hi, a2 _ _ (by omega), up1_ne _ _ (by omega)]
  · rw [a5 _ _ (by omega) (by omega), c4 i hi, a3 _ _ (by omega), a2 _ _ (by omega), up1_ne _ _ (by omega)]
