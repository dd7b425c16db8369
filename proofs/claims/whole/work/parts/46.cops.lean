/-! the class's net changed: looks, rounds, a new hall -/
theorem byt0 : byt 0 := by unfold byt; decide
theorem byt_k : ∀ g, g < 100 → byt (nI g) ∧ vp_nar .byte (ib (nI g)) = nI g := by unfold byt; decide +kernel
def kdn (a : AN) (w : Nat) : Nat := if akd a w = 1 then 1 else if avw a w ≤ 1024 then 0 else 2
/-- the wearer's table anew, in a net whose looks or rounds have changed -/
def abl (a : AN) (w : Nat) : AN := (an a, aq a, alk a, ard a, upn (akd a) w (kdn a w), upn (atb a) w (fun _ => 0), acd a)
def aLook (a : AN) (w s : Nat) : AN := if alk a w = s then a else abl (an a, aq a, upn (alk a) w s, ard a, akd a, atb a, acd a) w
theorem vw_lk {n q : Nat} {lk rd : Nat → Nat} {w k s : Nat} (h : k ≠ w) : vw n q (upn lk w s) rd k = vw n q lk rd k := by unfold vw; rw [upn_ne _ _ h]
theorem ctP_n {r w : Nat} : ∀ a i, ctP r w a i → nP r a i := by intro a i h; unfold ctP at h; unfold nP; omega
/-- the numbers of the net, but for the tables of w and its number of views: behind clearTable they stand -/
theorem CN_clear {I I' : HI} {r w : Nat} {a : AN} (h8 : an a ≤ 8) (hw : w < an a) (e0 : I r 0 = nI (an a)) (e1 : I r 1 = nI (aq a)) (e2 : I r 2 = nI (aq a ^ an a)) (e3 : ∀ w, w < an a → I (r + 1) w = nI (alk a w)) (e4 : ∀ w, w < an a → I (r + 2) w = nI (ard a w)) (e5 : ∀ w, w < an a → I (r + 3) w = nI (hr (an a) (ard a) w)) (e6 : ∀ k, k < an a → k ≠ w → I (r + 4) k = vwi (avw a k))
    (e7 : ∃ o, Ordd (an a) (ard a) o ∧ ∀ i, i < an a → I (r + 5) i = nI (o i)) (e8 : ∀ i, i < 8192 → byt (I (r + 7) i)) (e9 : ∀ k, k < an a → k ≠ w → akd a k = 0 → ∀ v, v < avw a k → I (r + 7) (1024 * k + v) = nI (atb a k v)) (h1k : ∀ k, k < an a → k ≠ w → akd a k = 0 → avw a k ≤ 1024)
    (f : Fr (ctP r w) I I') (ho : ∀ k, I' (r + 7) k = I (r + 7) k ∨ I' (r + 7) k = 0) (hv : I' (r + 4) w = vwi (avw a w)) (hz : avw a w ≤ 1024 → ∀ k, k < avw a w → I' (r + 7) (1024 * w + k) = 0) : CN I' r (abl a w) := by
  refine ⟨(f _ _ (by unfold ctP; omega)).trans e0, (f _ _ (by unfold ctP; omega)).trans e1, (f _ _ (by unfold ctP; omega)).trans e2, fun k hk => (f _ _ (by unfold ctP; omega)).trans (e3 k hk), fun k hk => (f _ _ (by unfold ctP; omega)).trans (e4 k hk), fun k hk => (f _ _ (by unfold ctP; omega)).trans (e5 k hk), fun k hk => ?_, ?_, fun i hi => ?_, fun k hk h0 v hvk => ?_⟩
  · by_cases e : k = w
    · subst e; exact hv
    · rw [f _ _ (by unfold ctP; omega)]; exact e6 k hk e
  · obtain ⟨o, h1, h2⟩ := e7
    exact ⟨o, h1, fun i hi => (f _ _ (by unfold ctP; omega)).trans (h2 i hi)⟩
  · rcases ho i with h | h
    · rw [h]; exact e8 i hi
    · rw [h]; exact byt0
  · by_cases e : k = w
    · subst e
      have h0 : upn (akd a) k (kdn a k) k = 0 := h0
      rw [upn_same] at h0
      have hle : avw a k ≤ 1024 := by
        unfold kdn at h0
        by_cases h1 : akd a k = 1
        · rw [if_pos h1] at h0; omega
        · rw [if_neg h1] at h0
          by_cases h2 : avw a k ≤ 1024
          · exact h2
          · rw [if_neg h2] at h0; omega
      show I' (r + 7) (1024 * k + v) = nI (upn (atb a) k (fun _ => 0) k v)
      rw [upn_same]
      exact hz hle v hvk
    · have h0 : upn (akd a) w (kdn a w) k = 0 := h0
      rw [upn_ne _ _ e] at h0
      have hle := h1k k hk e h0
      show I' (r + 7) (1024 * k + v) = nI (upn (atb a) w (fun _ => 0) k v)
      have hvk : v < avw a k := hvk
      rw [upn_ne _ _ e, f _ _ (by unfold ctP; omega)]
      exact e9 k hk e h0 v hvk
theorem CT_abl {I I' : HI} {T F : HR} {L : HL} {own : Nat → Nat} {r : Nat} {a a' : AN} (h : CT I T F L own r a) (hn : an a ≤ 8) (en : an a' = an a) (ec : acd a' = acd a) (ek : ∀ k, k < an a → (akd a' k = 1 ↔ akd a k = 1)) (f : Fr (nP r) I I') : CT I' T F L own r a' := by
  have h2 := h.fr (nP2 h.1 f) (fun _ _ => rfl) hn Ext.rf
  refine ⟨h2.1, h2.2.1, fun k hk => ?_⟩
  rw [en] at hk
  rw [ec]
  rcases h2.2.2 k hk with ⟨h3, h4⟩ | ⟨h3, h4⟩
  · exact Or.inl ⟨fun q => h3 ((ek k hk).mp q), h4⟩
  · exact Or.inr ⟨(ek k hk).mpr h3, h4⟩
theorem kdn_1 (a : AN) (w : Nat) : kdn a w = 1 ↔ akd a w = 1 := by
  unfold kdn
  by_cases h : akd a w = 1
  · simp [h]
  · rw [if_neg h]; split <;> omega
theorem abl_1 (a : AN) (w k : Nat) : akd (abl a w) k = 1 ↔ akd a k = 1 := by
  show upn (akd a) w (kdn a w) k = 1 ↔ _
  by_cases e : k = w
  · subst e; rw [upn_same]; exact kdn_1 a k
  · rw [upn_ne _ _ e]
theorem WF.k1 {a : AN} (h : WF a) : ∀ k, k < an a → akd a k = 0 → avw a k ≤ 1024 := by
  intro k hk h0
  obtain ⟨-, -, -, h1, -⟩ := h.2.2.2.2.2 k hk
  rcases h1 with h1 | h1
  · omega
  · by_cases h2 : avw a k ≤ 1024
    · exact h2
    · rw [if_neg h2] at h1; omega
theorem Net_lookAt_k {I : HI} {T F : HR} {L : HL} {own : Nat → Nat} {r w s : Nat} {a : AN} (W : WF a) (N : CN I r a) (C : CT I T F L own r a) (hw : w < an a) (hs : s < 2 ^ an a) {Q : HI → Prop} (h : ∀ I', Fr (nP r) I I' → CN I' r (aLook a w s) → CT I' T F L own r (aLook a w s) → Q I') : Net_lookAt I r (nI w) (nI s) Q := by
  have N0 := N
  obtain ⟨e0, e1, e2, e3, e4, e5, e6, e7, e8, e9⟩ := N
  obtain ⟨w1, w2, w3, w4, w5, w6⟩ := id W
  have h256 := p2le w2
  have hl := (w6 w hw).1
  unfold Net_lookAt
  rw [nx_nI (by omega), e3 w hw]
  refine ⟨vin (by omega) (by omega), ic (fun hc => ?_) (fun hc => ?_)⟩
  · rw [nI_eq (by omega) (by omega)] at hc
    have e : aLook a w s = a := if_pos hc
    rw [e] at h
    exact h I Fr.rf N0 C
  · rw [nI_eq (by omega) (by omega)] at hc
    refine ⟨vin (by omega) (by omega), ?_⟩
    generalize hb : ((an a, aq a, upn (alk a) w s, ard a, akd a, atb a, acd a) : AN) = b at *
    have e : aLook a w s = abl b w := by unfold aLook; rw [if_neg hc, hb]
    rw [e] at h
    have f0 : Fr (fun x i => x = r + 1 ∧ i = w) I (up2 I (r + 1) w (nI s)) := Fr.rf.up ⟨rfl, rfl⟩
    have hbn : an b = an a := by rw [← hb]
    have hbq : aq b = aq a := by rw [← hb]
    have hbl : alk b = upn (alk a) w s := by rw [← hb]
    have hbr : ard b = ard a := by rw [← hb]
    have hbk : akd b = akd a := by rw [← hb]
    have hbt : atb b = atb a := by rw [← hb]
    have hbc : acd b = acd a := by rw [← hb]
    have hbv : ∀ k, k ≠ w → avw b k = avw a k := fun k hk => by show vw _ _ _ _ k = _; rw [hbn, hbq, hbl, hbr, vw_lk hk]
    have hbw : avw b w = aq a ^ pop s * (aq a + 1) ^ pop (hr (an a) (ard a) w) := by show vw _ _ _ _ w = _; rw [hbn, hbq, hbl, hbr]; unfold vw; rw [upn_same]
    refine Net_clearTable_k (l := s) (h := hr (an a) (ard a) w) ((f0 _ _ (by omega)).trans e0) ((f0 _ _ (by omega)).trans e1) (up2_same _ _ _ _) ((f0 _ _ (by omega)).trans (e5 w hw)) hs (hr_lt _ _ _) w2 w3 w4 (by omega) (fun I' f ho hv hz => ?_)
    rw [← hbw] at hv hz
    have f1 : Fr (nP r) I I' := (f0.mono (fun x i hx => by unfold nP; omega)).tr (f.mono ctP_n)
    refine h I' f1 (CN_clear (by omega) (by omega) ?_ ?_ ?_ ?_ ?_ ?_ ?_ ?_ ?_ ?_ ?_ f ho hv hz) (CT_abl (a' := abl b w) C w2 hbn hbc (fun k hk => by rw [abl_1, hbk]) f1)
    · rw [hbn]; exact (f0 _ _ (by omega)).trans e0
    · rw [hbq]; exact (f0 _ _ (by omega)).trans e1
    · rw [hbq, hbn]; exact (f0 _ _ (by omega)).trans e2
    · intro k hk
      rw [hbn] at hk
      rw [hbl]
      by_cases e : k = w
      · subst e; rw [upn_same, up2_same]
      · rw [upn_ne _ _ e, f0 _ _ (by omega)]; exact e3 k hk
    · intro k hk; rw [hbn] at hk; rw [hbr, f0 _ _ (by omega)]; exact e4 k hk
    · intro k hk; rw [hbn] at hk; rw [hbr, hbn, f0 _ _ (by omega)]; exact e5 k hk
    · intro k hk hne; rw [hbn] at hk; rw [hbv k hne, f0 _ _ (by omega)]; exact e6 k hk
    · rw [hbn, hbr]
      obtain ⟨o, h1, h2⟩ := e7
      exact ⟨o, h1, fun i hi => (f0 _ _ (by omega)).trans (h2 i hi)⟩
    · intro i hi; rw [f0 _ _ (by omega)]; exact e8 i hi
    · intro k hk hne h0 v hv
      rw [hbn] at hk
      rw [hbk] at h0
      rw [hbv k hne] at hv
      rw [hbt, f0 _ _ (by omega)]
      exact e9 k hk h0 v hv
    · intro k hk hne h0; rw [hbn] at hk; rw [hbk] at h0; rw [hbv k hne]; exact W.k1 k hk h0
theorem aLook_WF {a : AN} {w s : Nat} (W : WF a) (hw : w < an a) (hs : s < 2 ^ an a) (hb : s.testBit w = false) : WF (aLook a w s) := by
  unfold aLook
  by_cases e : alk a w = s
  · rw [if_pos e]; exact W
  · rw [if_neg e]
    obtain ⟨w1, w2, w3, w4, w5, w6⟩ := W
    refine ⟨w1, w2, w3, w4, w5, fun k hk => ?_⟩
    have hk : k < an a := hk
    obtain ⟨g1, g2, g3, g4, g5⟩ := w6 k hk
    by_cases ek : k = w
    · subst ek
      refine ⟨?_, ?_, g3, ?_, fun _ v _ => ?_⟩
      · show upn (alk a) k s k < _; rw [upn_same]; exact hs
      · show (upn (alk a) k s k).testBit k = _; rw [upn_same]; exact hb
      · show (upn (akd a) k (kdn _ k) k = 1 ∧ _) ∨ upn (akd a) k (kdn _ k) k = _
        rw [upn_same]
        unfold kdn
        by_cases h1 : akd a k = 1
        · left
          refine ⟨if_pos h1, ?_⟩
          rcases g4 with g4 | g4
          · exact g4.2
          · rw [h1] at g4; split at g4 <;> omega
        · right
          exact if_neg h1
      · show upn (atb a) k (fun _ => 0) k v ≤ _; rw [upn_same]; exact Nat.zero_le _
    · have e1 : avw (abl (an a, aq a, upn (alk a) w s, ard a, akd a, atb a, acd a) w) k = avw a k := vw_lk ek
      refine ⟨?_, ?_, g3, ?_, ?_⟩
      · show upn (alk a) w s k < _; rw [upn_ne _ _ ek]; exact g1
      · show (upn (alk a) w s k).testBit k = _; rw [upn_ne _ _ ek]; exact g2
      · rw [e1]
        show (upn (akd a) w _ k = 1 ∧ _) ∨ upn (akd a) w _ k = _
        rw [upn_ne _ _ ek]; exact g4
      · rw [e1]
        show upn (akd a) w _ k = 0 → ∀ v, v < _ → upn (atb a) w _ k v ≤ _
        rw [upn_ne _ _ ek, upn_ne _ _ ek]; exact g5
