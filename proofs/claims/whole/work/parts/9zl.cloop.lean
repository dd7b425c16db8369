/-! rules: the class reads all rules -/
def mdf (g : Nat → Option RcT) (rs : List RuT) : Nat → Option RcT := rs.foldl (fun g r => upn g r.1 (some r.2)) g
def Mde (I : HI) (T F : HR) (L : HL) (own : Nat → Nat) (g : Nat → Option RcT) : Prop := ∀ w, w < 8 → (g w = none ∧ T 29 w = none) ∨ ∃ c f, g w = some c ∧ T 29 w = some f ∧ Frep I F L own f c ∧ (f, 8, 0) ∈ L
def FrQ (L0 : HL) (I0 I : HI) : Prop := ∀ b i, (∃ p ∈ L0, p.1 = b) → b ≠ 28 → b ≠ 31 → b ≠ 32 → b ≠ 33 → I b i = I0 b i
def LpE (own0 : Nat → Nat) (ro : Nat) (I0 : HI) (T0 F0 : HR) (L0 : HL) (own : Nat → Nat) (I : HI) (T F : HR) (L : HL) : Prop := Own own ro L ∧ Geo F L ∧ (∀ b, own0 b ≠ 0 → own b = own0 b) ∧ Ext F0 L0 F L ∧ FrQ L0 I0 I ∧ ∀ b i, b ≠ 29 → T b i = T0 b i
def LpS (t : Nat → Nat) (m n : Nat) (own0 : Nat → Nat) (ro : Nat) (I0 : HI) (T0 F0 : HR) (L0 : HL) (own : Nat → Nat) (I : HI) (T F : HR) (L : HL) (g : Nat → Option RcT) (s : Nat) : Prop := CR t m n I s ∧ LpE own0 ro I0 T0 F0 L0 own I T F L ∧ F 28 3 = some 34 ∧ I 28 0 = 0 ∧ I 28 1 = -1 ∧ Mde I T F L own g
def LpQ (own0 : Nat → Nat) (ro : Nat) (I0 : HI) (T0 F0 : HR) (L0 : HL) (g : Nat → Option RcT) (Q : HI → HR → HR → HL → Prop) (r : Except (Nat × Nat) (List RuT)) : Prop := match r with
  | .error e => ∀ own I T F L, LpE own0 ro I0 T0 F0 L0 own I T F L → F 28 3 = some 34 → I 28 0 = nI e.1 → I 28 1 = nI e.2 → Q I T F L
  | .ok rs => ∀ own I T F L, LpE own0 ro I0 T0 F0 L0 own I T F L → F 28 3 = some 34 → I 28 0 = 0 → I 28 1 = -1 → Mde I T F L own (mdf g rs) → Q I T F L
theorem z_l68 {b n : Nat} {Q : HI → HR → HR → HL → Prop} {I : HI} {T F : HR} {L : HL} {x4 : Int32} {cl sl : Nat} (a : I 28 8 = 130) (h1 : cl ≤ 85) (h2 : sl ≤ b) (K : Q I T F L) : Rd_read_l68 b Q (n + 1) I T F L x4 cl sl := by
  unfold Rd_read_l68
  exact ⟨h1, h2, ic (fun _ => K) (fun _ => ie (by rw [a]; decide) (it a K))⟩
theorem c_l68 {t : Nat → Nat} {m n : Nat} {own0 : Nat → Nat} {ro : Nat} {I0 : HI} {T0 F0 : HR} {L0 : HL} {Q : HI → HR → HR → HL → Prop} (h1n : 1 ≤ n) : ∀ d k s own I T F L g sl, k + d = 16 → sl ≤ 5 * k + 4 * s → LpS t m n own0 ro I0 T0 F0 L0 own I T F L g s → LpQ own0 ro I0 T0 F0 L0 g Q (spRules t m n d s) → Rd_read_l68 2080 Q (d + 2) I T F L (nI k) (5 * k) sl := by
  intro d
  induction d with
  | zero =>
    intro k s own I T F L g sl hk hsl hS K
    obtain ⟨hR, hE, h3, h0, h1, hM⟩ := hS
    have hsm := hR.2.1
    have hm := hR.1.2.1
    have hk2 := tK_ne t m s
    have e8 := hR.2.2.2.2.1
    unfold spRules at K
    unfold Rd_read_l68
    refine ⟨by omega, by omega, ie (nI_nlt (b := k) (a := 16) (by omega) (by decide)) ?_⟩
    by_cases c1 : tK t m s = 128
    · rw [if_pos c1] at K
      exact it (e8.trans (by rw [c1]; rfl)) (K own I T F L hE h3 h0 h1 hM)
    · rw [if_neg c1] at K
      refine ie (fun e => c1 ((nk hk2.2 e8 (c := 128) (by decide)).mp e)) (ie hR.ne ?_)
      have fin : ∀ f, ∀ I', FrR I I' → I' 28 8 = 130 → I' 28 0 = nI f → I' 28 1 = nI s → f = (if tK t m s = 141 then 2 else 1) → Rd_read_l68 2080 Q (0 + 1) I' T F L (nI k + 1) (5 * k) sl := by
        intro f I' g8 a b c ef
        refine z_l68 a (by omega) (by omega) (K own I' T F L ⟨hE.1, hE.2.1, hE.2.2.1, hE.2.2.2.1, fun b i h1 h2 h3 h4 h5 => (g8 b i h2 h3 h4 h5).trans (hE.2.2.2.2.1 b i h1 h2 h3 h4 h5), hE.2.2.2.2.2⟩ h3 ?_ c)
        rw [b, ef]
      by_cases c2 : tK t m s = 141
      · refine it (e8.trans (by rw [c2]; rfl)) (it (by rw [show k = 16 by omega]; rfl) (rStop (f := 2) hR (fun I' g8 a b c => fin 2 I' g8 a b c (by rw [if_pos c2]))))
      · exact ie (fun e => c2 ((nk hk2.2 e8 (c := 141) (by decide)).mp e)) (rStop (f := 1) hR (fun I' g8 a b c => fin 1 I' g8 a b c (by rw [if_neg c2])))
  | succ d ih =>
    intro k s own I T F L g sl hk hsl hS K
    obtain ⟨hR, hE, h3, h0, h1, hM⟩ := hS
    have hsm := hR.2.1
    have hm := hR.1.2.1
    have hn8 := hR.2.2.2.2.2.2.2
    have hk2 := tK_ne t m s
    have e8 := hR.2.2.2.2.1
    unfold spRules at K
    show Rd_read_l68 2080 Q (d + 2 + 1) I T F L (nI k) (5 * k) sl
    unfold Rd_read_l68
    refine ⟨by omega, by omega, ie (nI_nlt (b := k) (a := 16) (by omega) (by decide)) ?_⟩
    have fr : ∀ I', FrR I I' → LpE own0 ro I0 T0 F0 L0 own I' T F L := fun I' g8 => ⟨hE.1, hE.2.1, hE.2.2.1, hE.2.2.2.1, fun b i h1 h2 h3 h4 h5 => (g8 b i h2 h3 h4 h5).trans (hE.2.2.2.2.1 b i h1 h2 h3 h4 h5), hE.2.2.2.2.2⟩
    by_cases c1 : tK t m s = 128
    · rw [if_pos c1] at K
      exact it (e8.trans (by rw [c1]; rfl)) (K own I T F L hE h3 h0 h1 hM)
    rw [if_neg c1] at K
    refine ie (fun e => c1 ((nk hk2.2 e8 (c := 128) (by decide)).mp e)) (ie hR.ne ?_)
    by_cases c2 : tK t m s = 141
    rotate_left
    · rw [if_neg c2] at K
      exact ie (fun e => c2 ((nk hk2.2 e8 (c := 141) (by decide)).mp e)) (rStop (f := 1) hR (fun I' g8 a b c => z_l68 a (by omega) (by omega) (K own I' T F L (fr I' g8) h3 b c)))
    rw [if_pos c2] at K
    refine it (e8.trans (by rw [c2]; rfl)) (ie (fun e => ?_) ⟨GB (spRule t m n s), by omega, ?_, ?_⟩)
    · have := (nI_eq (by omega) (by decide)).mp (show nI k = nI 16 from e)
      omega
    · cases hq : spRule t m n s with
      | error e => simp only [GB]; omega
      | ok r =>
        have hok := spRule_ok h1n hm (kd_lt c1) hq
        simp only [GB]
        omega
    · refine rRule h1n hE.1 hE.2.1 h3 hR rfl ?_
      cases hq : spRule t m n s with
      | error e =>
        rw [hq] at K
        intro I' g8 a b c
        refine ⟨hE.2.1, h3, z_l68 a (by omega) ?_ (K own I' T F L (fr I' g8) h3 b c)⟩
        simp only [GB]; omega
      | ok r =>
        have hok := spRule_ok h1n hm (kd_lt c1) hq
        rw [hq] at K
        simp only at K
        intro I1 f I' F' L' own' k1 k2 k3 k4 k5
        obtain ⟨m1, m2, m3, m4, m5, m6⟩ := k3
        have mem : ∀ b, b < 56 → ∃ p ∈ L, p.1 = b := geo_all hE.2.1
        refine ⟨k5, k4, ?_⟩
        rw [nI_1, show 5 * k + 5 = 5 * (k + 1) by omega]
        refine ih (k + 1) r.1 own' I' _ F' L' (upn g r.2.1 (some r.2.2)) _ (by omega) (by simp only [GB]; omega) ⟨?_, ⟨m1, k5, fun b hb => (m2 b (by rw [hE.2.2.1 b hb]; exact hb)).trans (hE.2.2.1 b hb), hE.2.2.2.1.trans m3, fun b i h1 h2 h3 h4 h5 => ?_, fun b i hb => ?_⟩, k4, ?_, ?_, fun w hw => ?_⟩ ?_
        · obtain ⟨q1, q2, q3, q4, q5, q6, q7, q8⟩ := k2
          have u : ∀ b i, b < 56 → I' b i = I1 b i := fun b i hb => m4 b i (mem b hb)
          exact ⟨⟨(u 28 4 (by omega)).trans q1.1, q1.2.1, fun k hk => ⟨(u 34 k (by omega)).trans (q1.2.2 k hk).1, (q1.2.2 k hk).2⟩⟩, q2, (u 28 6 (by omega)).trans q3, (u 28 7 (by omega)).trans q4, (u 28 8 (by omega)).trans q5, fun h => (u 28 9 (by omega)).trans (q6 h), (u 28 5 (by omega)).trans q7, q8⟩
        · obtain ⟨p, hp, he⟩ := h1
          rw [m4 b i ⟨p, hE.2.2.2.1.1 p hp, he⟩, k1 b i (by omega) (by omega)]
          exact hE.2.2.2.2.1 b i ⟨p, hp, he⟩ h2 h3 h4 h5
        · rw [up2_ne _ _ _ hb]; exact hE.2.2.2.2.2 b i hb
        · rw [m4 28 0 (mem 28 (by omega)), k1 28 0 (by omega) (by omega)]; exact h0
        · rw [m4 28 1 (mem 28 (by omega)), k1 28 1 (by omega) (by omega)]; exact h1
        · by_cases e : w = r.2.1
          · subst e
            rw [upn_same, up2_same]
            exact Or.inr ⟨r.2.2, f, rfl, rfl, m5, m6⟩
          · rw [upn_ne _ _ e, up2_idx _ _ _ e]
            rcases hM w hw with ⟨x1, x2⟩ | ⟨c, f', x1, x2, x3, x4⟩
            · exact Or.inl ⟨x1, x2⟩
            · refine Or.inr ⟨c, f', x1, x2, (x3.fr (fun b i hb => ?_) m3).own m2, m3.1 _ x4⟩
              have hb56 := nz_own hE.1 b (by omega)
              rw [m4 b i (hE.1.2.2.1 b (by omega)), k1 b i (by omega) (by omega)]
        · cases hq2 : spRules t m n d r.1 with
          | error e => rw [hq2] at K; exact K
          | ok l => rw [hq2] at K; exact K
theorem c_l40 {I : HI} {F : HR} {L : HL} {b : Nat} {Q : HI → HR → HR → HL → Prop} {T0 : HR} (K : ∀ T', (∀ b i, b ≠ 29 → T' b i = T0 b i) → (∀ i, i < 8 → T' 29 i = none) → Rd_next I (fun I1 => ∃ nn, Rd_read_l68 b Q nn I1 T' F L 0 0 0)) : ∀ d w T, w + d = 8 → (∀ b i, b ≠ 29 → T b i = T0 b i) → (∀ i, i < w → T 29 i = none) → Rd_read_l40 I F L b Q (d + 1) T (nI w) := by
  intro d
  induction d with
  | zero =>
    intro w T hw h1 h2
    have : w = 8 := by omega
    subst this
    unfold Rd_read_l40
    exact it (by decide) (K T h1 h2)
  | succ d ih =>
    intro w T hw h1 h2
    unfold Rd_read_l40
    refine ie (nI_ge (show w < 8 by omega) (by decide)) ⟨vin (by omega) (by decide), ?_⟩
    rw [nx_nI (by omega), nI_1]
    refine ih (w + 1) _ (by omega) (fun b i hb => by rw [up2_ne _ _ _ hb]; exact h1 b i hb) (fun i hi => ?_)
    rw [up2_get]
    split
    · rfl
    · exact h2 i (by omega)
theorem c_follow {I : HI} {T : HR} {L : HL} {n : Nat} {Q : HR → Prop} (hn : I 1 0 = nI n) (h8 : n ≤ 8) (hm : ∀ w f, w < 8 → T 29 w = some f → (f, 8, 0) ∈ L) (K : ∀ T', (∀ b i, ¬ (b = 7 ∧ i < n) → T' b i = T b i) → (∀ i, i < n → T' 7 i = (T 29 i).or (T 7 i)) → Q T') : Net_follow I T L 1 Q := by
  have key : ∀ d w T', w + d = n → (∀ b i, ¬ (b = 7 ∧ i < w) → T' b i = T b i) → (∀ i, i < w → T' 7 i = (T 29 i).or (T 7 i)) → Net_follow_l2 I L 1 Q (d + 1) T' (nI w) := by
    intro d
    induction d with
    | zero =>
      intro w T' hw h1 h2
      have : w = n := by omega
      subst this
      unfold Net_follow_l2
      rw [hn]
      exact it (nI_le (Nat.le_refl _) (by omega)) (K T' h1 h2)
    | succ d ih =>
      intro w T' hw h1 h2
      unfold Net_follow_l2
      rw [hn, nx_nI (by omega), nI_1]
      have e29 : T' 29 w = T 29 w := h1 29 w (by omega)
      have e7 : T' 7 w = T 7 w := h1 7 w (by omega)
      refine ie (nI_ge (by omega) (by omega)) ⟨vin (by omega) (by decide), fun hN => ih (w + 1) T' (by omega) (fun b i hb => h1 b i (by omega)) (fun i hi => ?_), fun f hf => ⟨vin (by omega) (by decide), vin (by omega) (by decide), fun f hf => hm w f (by omega) (by rw [← e29]; exact hf), ih (w + 1) _ (by omega) (fun b i hb => ?_) (fun i hi => ?_)⟩⟩
      · by_cases e : i = w
        · subst e
          rw [e7, ← e29, hN]
          rfl
        · exact h2 i (by omega)
      · rw [up2_get, if_neg (by omega)]
        exact h1 b i (by omega)
      · rw [up2_get]
        by_cases e : i = w
        · subst e
          rw [if_pos ⟨rfl, rfl⟩, ← e29, hf]
          rfl
        · rw [if_neg (by omega)]
          exact h2 i (by omega)
  exact ⟨n + 1, key n 0 T (by omega) (fun _ _ _ => rfl) (fun i hi => by omega)⟩
