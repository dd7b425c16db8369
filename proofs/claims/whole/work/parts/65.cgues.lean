/-! the class: a text gone through; a guess; a row -/
theorem CRow.fr {I I' : HI} {r r1 v : Nat} {a : AN} {h g : Nat → Nat} {w : Nat} (C : CRow I r r1 a h g w) (f : Fr (fun b _ => b = v) I I') (hr : v ≠ r + 1 ∧ v ≠ r + 2) (hn : ∀ j, j ≤ 8 → v ≠ r1 + j) : CRow I' r r1 a h g w :=
  ⟨C.1.eq (fun j i hj => f _ _ (fun e => hn j hj e.symm)), fun k hk => (f _ _ (by omega)).trans (C.2.1 k hk), fun k hk hk2 => (f _ _ (by omega)).trans (C.2.2 k hk hk2)⟩
theorem evs_head {a : AN} {h g : Nat → Nat} {w : Nat} (o x : Nat) (s : List Int32) (c : AC) : evs a h g w ((o, x) :: c) s = evs a h g w c (if o = 1 then nI x :: s else if o = 2 then nI (valo a h g w x) :: s else if o = 3 then (if s.headD 0 = 0 then 1 else 0) :: s.tail else bin o (s.tail.headD 0) (s.headD 0) :: s.tail.tail) := rfl
theorem Frm_guess_l {I0 : HI} {a : AN} {h g : Nat → Nat} {w f n0 k l q v r r1 pl : Nat} (W : WF a) (hw : w < an a) (hn : n0 ≤ 500) (hpl : pl ≤ 500) (hvf : v ≠ f) (hvk : v ≠ k) (hvl : v ≠ l) (hvq : v ≠ q) (hvr : v ≠ r + 1 ∧ v ≠ r + 2) (hvn : ∀ j, j ≤ 8 → v ≠ r1 + j) {Q : Int32 → HI → Prop} :
    ∀ (c : AC) (i : Nat) (st : List Nat) (s : List Int32) (I : HI) (x4 : Int32), c ≠ [] → crel I k l q c i st → cok (an a) c s.length → vrel I v st s → (∀ b ∈ st, b < i) → i + c.length ≤ n0 → I f 4 = nI pl → CRow I r r1 a h g w → Fr (fun b _ => b = v) I0 I → (pl ≤ i ∨ i + c.length = pl) →
    (∀ I' y, Fr (fun b _ => b = v) I0 I' → y = (evs a h g w c s).headD 0 → (i + c.length = pl → y = 0) → ∃ nn, Frm_guess_l6 f n0 k l q v r1 r (nI w) Q nn I' y (nI (i + c.length))) →
    (i + c.length = pl → ¬ (evs a h g w c s).headD 0 = 0 → ∀ I', Fr (fun b _ => b = v) I0 I' → Q (nI (aq a)) I') → ∃ nn, Frm_guess_l6 f n0 k l q v r1 r (nI w) Q nn I x4 (nI i)
  | [], i, st, s, I, x4, hne, _, _, _, _, _, _, _, _, _, _, _ => absurd rfl hne
  | (o, x) :: c, i, st, s, I, x4, _, hc, ho, hv, hb, hi, ef, C, fr, hph, hcont, hstop => by
    have hi : i + (c.length + 1) ≤ n0 := hi
    -- what is left to do behind this part
    have next : ∀ (y : Int32) (st' : List Nat) (s' : List Int32), evs a h g w ((o, x) :: c) s = evs a h g w c (y :: s') → crel I k l q c (i + 1) (i :: st') → cok (an a) c (s'.length + 1) → vrel I v st' s' → (∀ b ∈ st', b < i) → ∃ nn, (if i + 1 = pl then (if y = 0 then Frm_guess_l6 f n0 k l q v r1 r (nI w) Q nn (up2 I v i y) y (nI (i + 1)) else Q (nI (aq a)) (up2 I v i y)) else Frm_guess_l6 f n0 k l q v r1 r (nI w) Q nn (up2 I v i y) y (nI (i + 1))) := by
      intro y st' s' ee hc' ho' hv' hb'
      have f9 : Fr (fun b _ => b = v) I (up2 I v i y) := Fr.rf.up rfl
      by_cases hcn : c = []
      · subst hcn
        have ey : y = (evs a h g w [(o, x)] s).headD 0 := by rw [ee]; rfl
        by_cases ht : i + 1 = pl
        · by_cases hy : y = 0
          · obtain ⟨nn, hnn⟩ := hcont _ y (fr.tr f9) ey (fun _ => hy)
            exact ⟨nn, it ht (it hy hnn)⟩
          · exact ⟨0, it ht (ie hy (hstop ht (by rw [← ey]; exact hy) _ (fr.tr f9)))⟩
        · obtain ⟨nn, hnn⟩ := hcont _ y (fr.tr f9) ey (fun e => absurd e ht)
          exact ⟨nn, ie ht hnn⟩
      · have cl : 1 ≤ c.length := by cases c with
          | nil => exact absurd rfl hcn
          | cons _ _ => simp
        have hph2 : i + 1 ≠ pl ∧ (pl ≤ i + 1 ∨ i + 1 + c.length = pl) := by
          have : ((o, x) :: c).length = c.length + 1 := rfl
          rw [this] at hph
          omega
        have len : i + ((o, x) :: c).length = i + 1 + c.length := by simp; omega
        suffices res : ∃ nn, Frm_guess_l6 f n0 k l q v r1 r (nI w) Q nn (up2 I v i y) y (nI (i + 1)) by
          obtain ⟨nn, hnn⟩ := res
          exact ⟨nn, ie hph2.1 hnn⟩
        refine Frm_guess_l W hw hn hpl hvf hvk hvl hvq hvr hvn c (i + 1) (i :: st') (y :: s') (up2 I v i y) y hcn (crel_fr (fun j => f9 _ _ (fun e => hvk e.symm)) (fun j => f9 _ _ (fun e => hvl e.symm)) (fun j => f9 _ _ (fun e => hvq e.symm)) _ _ _ hc') ho' ⟨up2_same _ _ _ _, vrel_up hb' hv'⟩ (fun b hm => ?_) (by omega) ((f9 _ _ (fun e => hvf e.symm)).trans ef) (C.fr f9 hvr hvn) (fr.tr f9) hph2.2 (fun I' y' f' ey hy => ?_) (fun he hy I' f' => ?_)
        · rcases List.mem_cons.mp hm with e | e
          · omega
          · have := hb' b e; omega
        · rw [← ee] at ey
          rw [← len] at hy ⊢
          exact hcont I' y' f' ey hy
        · rw [← ee] at hy
          rw [← len] at he
          exact hstop he hy I' f'
    -- one part
    have b72 : ∀ nn y, (if i + 1 = pl then (if y = 0 then Frm_guess_l6 f n0 k l q v r1 r (nI w) Q nn (up2 I v i y) y (nI (i + 1)) else Q (nI (aq a)) (up2 I v i y)) else Frm_guess_l6 f n0 k l q v r1 r (nI w) Q nn (up2 I v i y) y (nI (i + 1))) → Frm_guess_b72 I f n0 k l q v r1 r (nI w) (nI i) y (fun I' x4' x5' => Frm_guess_l6 f n0 k l q v r1 r (nI w) Q nn I' x4' x5') Q := by
      intro nn y hk
      have f9 : Fr (fun b _ => b = v) I (up2 I v i y) := Fr.rf.up rfl
      unfold Frm_guess_b72
      rw [nx_nI (by omega), show (up2 I v i y) f 4 = nI pl from (f9 _ _ (fun e => hvf e.symm)).trans ef, show (up2 I v i y) r1 1 = nI (aq a) from (f9 _ _ (fun e => hvn 0 (by omega) e.symm)).trans C.1.2.1, nI_1]
      refine ⟨vin (by omega) (by omega), ic (fun ht => ?_) (fun ht => ?_)⟩
      · rw [chk (by omega) (by omega)] at ht
        rw [if_pos ht] at hk; exact hk
      · rw [chk (by omega) (by omega)] at ht
        rw [if_neg ht] at hk; exact hk
    have go : ∀ (y : Int32) (st' : List Nat) (s' : List Int32) (t0 : Int32), evs a h g w ((o, x) :: c) s = evs a h g w c (y :: s') → crel I k l q c (i + 1) (i :: st') → cok (an a) c (s'.length + 1) → vrel I v st' s' → (∀ b ∈ st', b < i) → (∀ {P : Int32 → Prop}, P y → if t0 = 0 then Frm_look I f n0 k l q v (nI i) r1 (nI w) r P else Frm_join I f n0 k l q v (nI i) P) → (t0 = 1 ∧ (ckd o x < 128 ∨ 151 ≤ ckd o x) ∨ t0 = 0 ∧ 128 ≤ ckd o x ∧ ckd o x < 151) → ckd o x < 1000 → I k i = nI (ckd o x) → ∃ nn, Frm_guess_l6 f n0 k l q v r1 r (nI w) Q nn I x4 (nI i) := by
      intro y st' s' t0 ee hc' ho' hv' hb' hP ht hck ek
      obtain ⟨nn, hnn⟩ := next y st' s' ee hc' ho' hv' hb'
      refine ⟨nn + 1, ?_⟩
      rw [Frm_guess_l6, nx_nI (by omega), ek]
      have b47 : Frm_guess_b47 I f n0 k l q v r1 r (nI w) (nI i) t0 (fun I' x4' x5' => Frm_guess_l6 f n0 k l q v r1 r (nI w) Q nn I' x4' x5') Q := by
        unfold Frm_guess_b47
        exact hP (b72 nn y hnn)
      have hlt : ¬ Int32.ofNat n0 ≤ nI i := nI_ge (show i < n0 by omega) (by omega)
      refine ie hlt ⟨vin (by omega) (by omega), ?_⟩
      rw [show (128 : Int32) = nI 128 from rfl, show (151 : Int32) = nI 151 from rfl]
      rcases ht with ⟨rfl, ht⟩ | ⟨rfl, h1, h2⟩
      · rcases ht with ht | ht
        · exact it (nI_lt ht (by omega)) b47
        · exact ie (nI_nlt (by omega) (by omega)) ⟨vin (by omega) (by omega), ie (nI_nlt ht (by omega)) b47⟩
      · exact ie (nI_nlt h1 (by omega)) ⟨vin (by omega) (by omega), it (nI_lt h2 (by omega)) b47⟩
    unfold crel at hc
    unfold cok at ho
    obtain ⟨ek, hc⟩ := hc
    rcases ho with ⟨ho1, ho2⟩ | ⟨rfl, hd, ho2⟩ | ⟨h4, h11, hd, ho2⟩
    · rcases ho1 with ⟨rfl, hx⟩ | ⟨rfl, hx⟩
      · rw [if_pos rfl] at hc
        exact go (nI x) st s 0 rfl hc.2 ho2 hv hb (fun hP => it rfl (Frm_look_k W C hw (by omega) hn ek (Or.inl ⟨rfl, hx, hc.1⟩) hP)) (Or.inr ⟨rfl, by show 128 ≤ 131; omega, by show 131 < 151; omega⟩) (by show 131 < 1000; omega) ek
      · rw [if_neg (by omega), if_pos rfl] at hc
        have ck : ckd 2 x = 138 + x % 16 := rfl
        have hx' := hx
        obtain ⟨v1, v2, v3⟩ := hx'
        exact go (nI (valo a h g w x)) st s 0 rfl hc.2 ho2 hv hb (fun hP => it rfl (Frm_look_k (o := 2) W C hw (by omega) hn ek (Or.inr ⟨rfl, hx, hc.1⟩) hP)) (Or.inr ⟨rfl, by omega, by omega⟩) (by omega) ek
    · rw [if_neg (by omega), if_neg (by omega)] at hc
      cases st with
      | nil => exact hc.elim
      | cons b st =>
        cases s with
        | nil => exact hv.elim
        | cons y s =>
          dsimp only at hc
          rw [if_pos rfl] at hc
          have hbi := hb b List.mem_cons_self
          refine go (if y = 0 then 1 else 0) st s 1 rfl hc.2.2 ho2 hv.2 (fun b' hm => hb b' (List.mem_cons_of_mem _ hm)) (fun hP => ie (by decide) (Frm_not_k (x := x) (by omega) (by omega) hn ek hc.1 hc.2.1 ?_)) (Or.inl ⟨rfl, Or.inr (by show 151 ≤ 151; omega)⟩) (by show 151 < 1000; omega) ek
          rw [hv.1]; exact hP
    · rw [if_neg (by omega), if_neg (by omega)] at hc
      cases st with
      | nil => exact hc.elim
      | cons b st =>
        dsimp only at hc
        rw [if_neg (by omega)] at hc
        cases st with
        | nil => exact hc.elim
        | cons d st =>
          cases s with
          | nil => exact hv.elim
          | cons y s =>
            cases s with
            | nil => exact hv.2.elim
            | cons z s =>
              have hbi := hb b List.mem_cons_self
              have hdi := hb d (List.mem_cons_of_mem _ List.mem_cons_self)
              have hck : (ckd o x < 128 ∨ 151 ≤ ckd o x) ∧ ckd o x < 1000 := by
                rcases (show o = 4 ∨ o = 5 ∨ o = 6 ∨ o = 7 ∨ o = 8 ∨ o = 9 ∨ o = 10 ∨ o = 11 by omega) with rfl | rfl | rfl | rfl | rfl | rfl | rfl | rfl <;> simp [ckd]
              refine go (bin o z y) st s 1 ?_ hc.2.2 ho2 hv.2.2 (fun b' hm => hb b' (List.mem_cons_of_mem _ (List.mem_cons_of_mem _ hm))) (fun hP => ie (by decide) (Frm_join_k (x := x) (by omega) (by omega) (by omega) hn ek hc.1 hc.2.1 ⟨h4, h11⟩ ?_)) (Or.inl ⟨rfl, hck.1⟩) hck.2 ek
              · rw [evs_head, if_neg (by omega), if_neg (by omega), if_neg (by omega)]; rfl
              · rw [hv.1, hv.2.1]; exact hP
