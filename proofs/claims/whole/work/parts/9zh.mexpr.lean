/-! rules: the reference's expressions -/
theorem kmap_5 {k : Nat} (h : k ≠ 151) : kmap k ≠ 5 := by
  unfold kmap
  split
  · decide
  split
  · decide
  split
  · decide
  split
  · decide
  split
  · decide
  split
  · exact fun e => by have := (nI_eq (by omega) (by decide)).mp (show nI (k - 138) = nI 5 from e); omega
  · decide
/-- a fault within an operand -/
theorem mBad74 {I : HI} {J : HJ} {x2 : Int32} {Qo : HI → HJ → Prop} {n4 : Nat} (h : I 0 17 ≠ 0) (h4 : 1 ≤ n4) (K : Qo I J) : M_operand_b74 I J x2 (fun I' J' x2' x3' => M_operand_l4 Qo n4 I' J' x2' x3') Qo := by
  obtain ⟨k, rfl⟩ : ∃ k, n4 = k + 1 := ⟨n4 - 1, by omega⟩
  unfold M_operand_b74
  refine mBad h (it rfl ?_)
  unfold M_operand_b94 M_operand_b95
  refine it rfl ?_
  show M_operand_l4 Qo (k + 1) I J x2 0
  unfold M_operand_l4
  refine it rfl ?_
  unfold M_part
  exact mBad h (it rfl K)
theorem LV_nots {t : Nat → Nat} {m n p dep : Nat} {sub : Nat → Rs} (hsub : LV t m n p L74 4 sub dep) {x1 : Int32} {Q : Int32 → HI → HJ → Prop} {nF n4 : Nat} {Qo : HI → HJ → Prop} (h4 : 7 ≤ n4 + dep) (hQ : ∀ I' J', M_expression_l35 x1 Q nF I' J' 1 → Qo I' J') : ∀ b x4 I J s E S, x4 + b = 6 → MS t m n I J s p E S dep → Lowr 4 S → I 16 dep = 0 → m + 2 ≤ s + nF → LOO t m n p 3 dep x1 Q I E S (spNot t m sub b s) → M_operand_l18 1 (fun I' J' x2' x3' => M_operand_l4 Qo n4 I' J' x2' x3') Qo (b + 2) I J (nI x4) := by
  have hno : ∀ b x4 I J s E S, MS t m n I J s p E S dep → Lowr 4 S → I 16 dep = 0 → m + 2 ≤ s + nF → tK t m s ≠ 151 → LOO t m n p 3 dep x1 Q I E S (sub s) → M_operand_l18 1 (fun I' J' x2' x3' => M_operand_l4 Qo n4 I' J' x2' x3') Qo (b + 1) I J x4 := by
    intro b x4 I J s E S hS hL hz hF hk K
    have hR := hS.1
    obtain ⟨a1, a2, a3, a4, a5, a6, a7, a8⟩ := hR
    unfold M_operand_l18
    refine mGood a4 (ie (by decide) (ie (by decide) (M_known_k a1.2.1 a2 a3 (ie (kmap_5 hk) ?_))))
    refine hsub x1 Q nF n4 I J s E S Qo hS hL (fun _ => hz) hF h4 hQ ?_ 1
    cases hq : sub s with
    | error e => rw [hq] at K; exact K
    | ok r =>
      rw [hq] at K
      intro nF2 I2 J2 P2 Eo2 hF2 hS2 he2 hP2 hf2 ht2
      exact K nF2 I2 J2 P2 Eo2 hF2 hS2 he2 (fun o h => ⟨(hP2 o h).1, by have := (hP2 o h).2; omega⟩) hf2 (fun _ => ht2 (by omega))
  intro b
  induction b with
  | zero =>
    intro x4 I J s E S hx hS hL hz hF K
    unfold spNot at K
    by_cases hk : tK t m s = 151
    · rw [if_pos hk] at K
      obtain ⟨hR, hM, -, -⟩ := hS
      obtain ⟨a1, a2, a3, a4, a5, a6, a7, a8⟩ := hR
      have e6 : x4 = 6 := by omega
      subst e6
      obtain ⟨k, rfl⟩ : ∃ k, nF = k + 1 := ⟨nF - 1, by omega⟩
      unfold M_operand_l18
      refine mGood a4 (ie (by decide) (ie (by decide) (M_known_k a1.2.1 a2 a3 ?_)))
      rw [hk]
      refine it (by decide) (it rfl (mWrong (f := 2) a4 a3.2.1 (fun I1 f1 e1 e2 => ?_)))
      have g1 : Fr1 I I1 := f1
      have ne := wne e1 (by decide) (by decide)
      unfold M_operand_b49
      refine mBad ne (it rfl ?_)
      show M_operand_l18 1 _ Qo (0 + 1) I1 J _
      unfold M_operand_l18
      exact mBad ne (it rfl (mBad74 ne (by omega) (hQ _ _ (mFault ne (hM.fr1 g1) (fun I2 f2 e3 e4 => K I2 J (g1.frF.trans f2) (e3.trans e1) (e4.trans e2))))))
    · rw [if_neg hk] at K
      exact hno 1 _ I J s E S hS hL hz hF hk K
  | succ b ih =>
    intro x4 I J s E S hx hS hL hz hF K
    unfold spNot at K
    by_cases hk : tK t m s = 151
    · rw [if_pos hk] at K
      have hn := nxt_gt t (kd_lt (show tK t m s ≠ 128 by omega))
      obtain ⟨hR, hM, hB, hC⟩ := hS
      have hR' := hR
      obtain ⟨a1, a2, a3, a4, a5, a6, a7, a8⟩ := hR
      show M_operand_l18 1 _ Qo (b + 2 + 1) I J (nI x4)
      unfold M_operand_l18
      refine mGood a4 (ie (by decide) (ie (by decide) (M_known_k a1.2.1 a2 a3 ?_)))
      rw [hk]
      refine it (by decide) (ie (fun e => ?_) ?_)
      · have := (nI_eq (by omega) (by decide)).mp (show nI x4 = nI 6 from e)
        omega
      · unfold M_operand_b49
        refine mGood a4 (ie (by decide) (mPush (o := 3) (e := dep + 1) hR' hM hB hC (by omega) (by omega) (by omega) (fun I1 J1 hS1 f1 => ?_)))
        rw [nI_1]
        refine ih (x4 + 1) I1 J1 _ E (3 :: S) (by omega) hS1 (Or.inr (by decide)) ((f1 16 dep (by omega) (by omega) (by omega) (by omega)).trans hz) (by omega) ?_
        have f1' : FrP p dep I I1 := fun a i n1 n2 n3 n4 => f1 a i n1 n2 n3 (fun x => n4 ⟨x.1, by omega⟩)
        cases hq : spNot t m sub b (nxt t m s) with
        | error e =>
          rw [hq] at K
          intro I' J' f e1 e2
          exact K I' J' (f1.fF.trans f) e1 e2
        | ok r =>
          rw [hq] at K
          intro nF2 I2 J2 P2 Eo2 hF2 hS2 he2 hP2 hf2 ht2
          refine K nF2 I2 J2 (P2 ++ [3]) Eo2 hF2 ?_ ?_ ?_ (f1'.trans hf2 (Nat.le_refl _)) ht2
          · rw [List.append_assoc P2, List.singleton_append]
            exact hS2
          · rw [its_app, ← he2, List.append_assoc]
            rfl
          · intro o ho2
            rcases List.mem_append.mp ho2 with h | h
            · exact hP2 o h
            · have : o = 3 := by simpa using h
              rw [this]
              decide
    · rw [if_neg hk] at K
      exact hno (b + 2) _ I J s E S hS hL hz hF hk K
theorem LV_not {t : Nat → Nat} {m n p dep : Nat} {sub : Nat → Rs} (hsub : LV t m n p L74 4 sub dep) : LV t m n p Lx4 3 (spNot t m sub 6) dep := by
  intro x1 Q nF n4 I J s E S Qo hS hL hz hF h4 hQ K
  have a4 := hS.1.2.2.2.1
  unfold Lx4 M_operand_l4
  exact ie (by decide) (mGood a4 (ie (by decide) ⟨8, LV_nots hsub h4 hQ 6 0 I J s E S (by decide) hS (hL.mono (by omega)) (hz (by omega)) hF K⟩))
/-- before an expression: its depth -/
theorem LB_or {t : Nat → Nat} {m n p d dep : Nat} (hd : dep + d = 6) (hV : ∀ d', d = d' + 1 → LV t m n p Lx4 1 (spOr t m n d) (dep + 1)) {x1 : Int32} {Q : Int32 → HI → HJ → Prop} {nF n4 : Nat} {I : HI} {J : HJ} {s : Nat} {E : AC} {S : List Nat} {Qo : HI → HJ → Prop} {R : HI → Prop} (hRR : ∀ I', M_operand_l4 Qo n4 I' J 1 1 → R I') (hS : MS t m n I J s p E S dep) (hL : Lowr 1 S) (hF : m + 2 ≤ s + nF) (h4 : 7 ≤ n4 + dep) (hQ : ∀ I' J', M_expression_l35 x1 Q nF I' J' 1 → Qo I' J') (K : LOO t m n p 1 (dep + 1) x1 Q I E S (spOr t m n d s)) : M_begins I R := by
  have hsm := hS.1.2.1
  obtain ⟨hR, hM, hB, hC⟩ := hS
  obtain ⟨k, rfl⟩ : ∃ k, nF = k + 1 := ⟨nF - 1, by omega⟩
  obtain ⟨k4, rfl⟩ : ∃ k, n4 = k + 1 := ⟨n4 - 1, by omega⟩
  refine mBegins hR (fun h6 I1 f1 e30 e16 => ?_) (fun h6 I1 g1 ne e1 e2 => ?_)
  · obtain ⟨d', rfl⟩ : ∃ d', d = d' + 1 := ⟨d - 1, by omega⟩
    have hR1 : MR t m n I1 J s (dep + 1) := hR.fr30 (fun i _ _ h3 => f1 0 i (by omega) (by omega)) (fun k => f1 10 k (by omega) (by omega)) e30 (by omega)
    have hM1 : MM I1 p E S := hM.frW (fun a i h1 h2 => f1 a i (by omega) (by omega))
    have g1 : FrP p (dep + 1) I I1 := fun a i n1 n2 n3 n4 => f1 a i (by omega) (by omega)
    refine hRR _ (hV d' rfl x1 Q (k + 1) k4 I1 J s E S Qo ⟨hR1, hM1, hB, hC⟩ hL (fun _ => e16) hF (by omega) hQ ?_)
    cases hq : spOr t m n (d' + 1) s with
    | error e =>
      rw [hq] at K
      intro I' J' f e1 e2
      exact K I' J' (g1.fF.trans f) e1 e2
    | ok r =>
      rw [hq] at K
      intro nF2 I2 J2 P2 Eo2 hF2 hS2 he2 hP2 hf2 ht2
      exact K nF2 I2 J2 P2 Eo2 hF2 hS2 he2 hP2 (g1.trans hf2 (Nat.le_refl _)) ht2
  · have e0 : d = 0 := by omega
    subst e0
    unfold spOr at K
    refine hRR _ ?_
    unfold M_operand_l4
    refine ie (by decide) (mBad ne (it rfl ?_))
    unfold M_part
    exact mBad ne (it rfl (hQ _ _ (mFault ne (hM.fr1 g1) (fun I2 f2 e3 e4 => K I2 J (g1.frF.trans f2) (e3.trans e1) (e4.trans e2)))))
def EnF (t : Nat → Nat) (m : Nat) (f : Nat → Rs) (op : Nat → Nat) : Prop := ∀ s, s ≤ m → ∀ r, f s = .ok r → op (tK t m r.1) = 0
theorem EN_loop {t : Nat → Nat} {m n : Nat} {sub : Nat → Rs} {op o2 : Nat → Nat} (hs : SP m n sub) (ho : ∀ k, op k = 0 ∨ (4 ≤ op k ∧ op k ≤ 11 ∧ k ≠ 128)) (hE : EnF t m sub o2) : ∀ d s E, s ≤ m → m ≤ s + d → o2 (tK t m s) = 0 → ∀ r, spLoop t m sub op d s E = .ok r → op (tK t m r.1) = 0 ∧ o2 (tK t m r.1) = 0 := by
  intro d
  induction d with
  | zero =>
    intro s E hsm hd h2 r h
    simp only [spLoop, Except.ok.injEq] at h
    subst h
    refine ⟨?_, h2⟩
    rcases ho (tK t m s) with h0 | ⟨-, -, h3⟩
    · exact h0
    · exact absurd (kd_lt h3) (by omega)
  | succ d ih =>
    intro s E hsm hd h2 r h
    simp only [spLoop] at h
    rcases ho (tK t m s) with h0 | ⟨h1, h1', h3⟩
    · rw [if_pos h0] at h
      simp only [Except.ok.injEq] at h
      subst h
      exact ⟨h0, h2⟩
    · rw [if_neg (by omega)] at h
      have hn := nxt_gt t (kd_lt h3)
      have hn2 := nxt_le t hsm
      cases hq : sub (nxt t m s) with
      | error e => rw [hq] at h; exact absurd h (by simp)
      | ok p2 =>
        rw [hq] at h
        obtain ⟨a1, a2, a3, a4⟩ := hs _ hn2 p2 hq
        exact ih p2.1 _ a2 (by omega) (hE _ hn2 p2 hq) r h
theorem EN_bin {t : Nat → Nat} {m n : Nat} {sub : Nat → Rs} {op o2 : Nat → Nat} (hs : SP m n sub) (ho : ∀ k, op k = 0 ∨ (4 ≤ op k ∧ op k ≤ 11 ∧ k ≠ 128)) (hE : EnF t m sub o2) : EnF t m (spBin t m sub op) op ∧ EnF t m (spBin t m sub op) o2 := by
  have : ∀ s, s ≤ m → ∀ r, spBin t m sub op s = .ok r → op (tK t m r.1) = 0 ∧ o2 (tK t m r.1) = 0 := by
    intro s hsm r h
    unfold spBin at h
    cases hq : sub s with
    | error e => rw [hq] at h; exact absurd h (by simp)
    | ok p1 =>
      rw [hq] at h
      obtain ⟨a1, a2, a3, a4⟩ := hs s hsm p1 hq
      exact EN_loop hs ho hE _ p1.1 _ a2 (by omega) (hE _ hsm p1 hq) r h
  exact ⟨fun s h r e => (this s h r e).1, fun s h r e => (this s h r e).2⟩
theorem EN_test {t : Nat → Nat} {m : Nat} {sub : Nat → Rs} {op : Nat → Nat} (hs : ∃ n, SP m n sub) (hE : EnF t m sub op) : EnF t m (spTest t m sub) op := by
  intro s hsm r h
  obtain ⟨n, hs⟩ := hs
  unfold spTest at h
  cases hq : sub s with
  | error e => rw [hq] at h; exact absurd h (by simp)
  | ok p1 =>
    rw [hq] at h
    obtain ⟨a1, a2, a3, a4⟩ := hs s hsm p1 hq
    simp only at h
    split at h
    · simp only [Except.ok.injEq] at h
      subst h
      exact hE s hsm _ hq
    · have hn2 := nxt_le t a2
      cases hq2 : sub (nxt t m p1.1) with
      | error e => rw [hq2] at h; exact absurd h (by simp)
      | ok p2 =>
        rw [hq2] at h
        simp only [Except.ok.injEq] at h
        subst h
        exact hE _ hn2 p2 hq2
theorem EN_not {t : Nat → Nat} {m : Nat} {sub : Nat → Rs} {op : Nat → Nat} (hE : EnF t m sub op) : ∀ b, EnF t m (spNot t m sub b) op := by
  intro b
  induction b with
  | zero =>
    intro s hsm r h
    unfold spNot at h
    split at h
    · exact absurd h (by simp)
    · exact hE s hsm r h
  | succ b ih =>
    intro s hsm r h
    unfold spNot at h
    split at h
    · have hn2 := nxt_le t hsm
      cases hq : spNot t m sub b (nxt t m s) with
      | error e => rw [hq] at h; exact absurd h (by simp)
      | ok p1 =>
        rw [hq] at h
        simp only [Except.ok.injEq] at h
        subst h
        exact ih _ hn2 p1 hq
    · exact hE s hsm r h
theorem EN_or {t : Nat → Nat} {m n : Nat} (h1n : 1 ≤ n) {d s : Nat} (hs : s ≤ m) {r : Nat × AC} (h : spOr t m n d s = .ok r) : opP (tK t m r.1) = 0 ∧ opS (tK t m r.1) = 0 ∧ opA (tK t m r.1) = 0 ∧ opO (tK t m r.1) = 0 := by
  cases d with
  | zero => unfold spOr at h; exact absurd h (by simp)
  | succ d =>
    unfold spOr at h
    have s0 := SP_part (t := t) (SP_or (t := t) (m := m) h1n d) h1n
    have s1 := SP_bin (t := t) s0 opP_ok
    have s2 := SP_bin (t := t) s1 opS_ok
    have s3 := SP_test (t := t) s2
    have s4 := SP_not (t := t) s3 6
    have s5 := SP_bin (t := t) s4 opA_ok
    have z : ∀ f, EnF t m f (fun _ => 0) := fun f _ _ _ _ => rfl
    have e1 := (EN_bin s0 opP_ok (z _)).1
    have e2 := EN_bin s1 opS_ok e1
    have e3P := EN_not (EN_test ⟨n, s2⟩ e2.2) 6
    have e3S := EN_not (EN_test ⟨n, s2⟩ e2.1) 6
    have e4P := EN_bin s4 opA_ok e3P
    have e4S := EN_bin s4 opA_ok e3S
    exact ⟨(EN_bin s5 opO_ok e4P.2).2 s hs r h, (EN_bin s5 opO_ok e4S.2).2 s hs r h, (EN_bin s5 opO_ok e4P.1).2 s hs r h, (EN_bin s5 opO_ok e4P.1).1 s hs r h⟩
theorem LV_part {t : Nat → Nat} {m n p d dep : Nat} (h1n : 1 ≤ n) (h1 : 1 ≤ dep) (hd : dep + d = 6) (hV : ∀ d', d = d' + 1 → LV t m n p Lx4 1 (spOr t m n d) (dep + 1)) : LV t m n p L74 7 (spPart t m n (spOr t m n d)) dep := by
  intro x1 Q nF n4 I J s E S Qo hS hL hz hF h4 hQ K x2
  have hS' := hS
  obtain ⟨hR, hM, hB, hC⟩ := hS
  have hR' := hR
  obtain ⟨a1, a2, a3, a4, a5, a6, a7, a8⟩ := hR
  unfold M_operand_b74
  refine mGood a4 (ie (by decide) (mSign (c := 40) a3 (by decide) ?_))
  by_cases hk : tK t m s = 40
  · rw [if_pos hk]
    refine ie (by decide) ?_
    unfold M_operand_b95
    refine ie (by decide) ?_
    have hn := nxt_gt t (kd_lt (show tK t m s ≠ 128 by omega))
    have hn2 := nxt_le t a2
    unfold spPart at K
    rw [if_pos hk] at K
    refine mPush (o := 12) (e := dep + 1) hR' hM hB hC (by omega) (by omega) (by omega) (fun I2 J2 hS2 f2 => ?_)
    refine LB_or (nF := nF) hd hV (fun _ h => h) hS2 (Or.inl rfl) (by omega) h4 hQ ?_
    cases hq : spOr t m n d (nxt t m s) with
    | error e =>
      rw [hq] at K
      intro I' J' f e1 e2
      exact K I' J' (f2.fF.trans f) e1 e2
    | ok r =>
      rw [hq] at K
      intro nF3 I3 J3 P3 Eo3 hF3 hS3 he3 hP3 hf3 ht3
      have hf3' : FrP p (dep + 1) I2 I3 := hf3
      have hen := EN_or h1n hn2 hq
      have hsm := hS3.1.2.1
      obtain ⟨k, rfl⟩ : ∃ k, nF3 = k + 2 := ⟨nF3 - 2, by omega⟩
      simp only at K
      by_cases h41 : tK t m r.1 = 41
      · rw [if_pos h41] at K
        have hn3 := nxt_gt t (kd_lt (show tK t m r.1 ≠ 128 by omega))
        refine mClose (k := k + 1) hS3 h41 h1 (fun o h => (hP3 o h).1) (fun I4 J4 hS4 f4 => K (k + 1) I4 J4 [] r.2 (by simp only; omega) ?_ ?_ (fun o h => absurd h List.not_mem_nil) (f2.trans (hf3'.trans f4 (Nat.le_refl _)) (Nat.le_refl _)) (fun h => by omega))
        · rw [List.append_assoc, he3] at hS4
          exact hS4
        · simp only [its, List.map_nil, List.append_nil]
      · rw [if_neg h41] at K
        refine mLeave hS3.1 hen.1 hen.2.1 hen.2.2.1 hen.2.2.2 (ht3 (by omega)) (fun h => absurd h h41) (mEnd2 hS3 (by omega) (fun I4 f4 e1 e2 => K I4 J3 (f2.fF.trans (hf3'.fF.trans f4)) e1 e2))
  · rw [if_neg hk]
    obtain ⟨k4, rfl⟩ : ∃ k, n4 = k + 1 := ⟨n4 - 1, by omega⟩
    obtain ⟨k, rfl⟩ : ∃ k, nF = k + 1 := ⟨nF - 1, by omega⟩
    refine it rfl ?_
    unfold M_operand_b94 M_operand_b95
    refine it rfl ?_
    show M_operand_l4 Qo (k4 + 1) I J x2 0
    unfold M_operand_l4
    refine it rfl (mPart (ro := spOr t m n d) hS' hk ?_)
    cases hf : spPart t m n (spOr t m n d) s with
    | error e =>
      rw [hf] at K
      intro I' J' E' f ne e1 e2 hM'
      exact hQ _ _ (mFault ne hM' (fun I2 f2 g1 g2 => K I2 J' (f.trans f2) (g1.trans e1) (g2.trans e2)))
    | ok r =>
      have hsp := SP_part (t := t) (SP_or h1n d) h1n s a2 r hf
      rw [hf] at K
      intro I' J' hS2 f
      exact hQ _ _ (K (k + 1) I' J' [] r.2 (by omega) hS2 (by simp only [its, List.map_nil, List.append_nil]) (fun o h => absurd h List.not_mem_nil) f (fun h => by omega))
theorem gP (k : Nat) (h : opP k ≠ 0) : stg (opP k) = 6 := by
  unfold opP at h ⊢
  split
  · rfl
  · split
    · rfl
    · rename_i a b; rw [if_neg a, if_neg b] at h; omega
theorem gS (k : Nat) (h : opS k ≠ 0) : stg (opS k) = 5 := by
  unfold opS at h ⊢
  split
  · rfl
  · split
    · rfl
    · rename_i a b; rw [if_neg a, if_neg b] at h; omega
theorem gA (k : Nat) (h : opA k ≠ 0) : stg (opA k) = 2 := by
  unfold opA at h ⊢
  split
  · rfl
  · rename_i a; rw [if_neg a] at h; omega
theorem gO (k : Nat) (h : opO k ≠ 0) : stg (opO k) = 1 := by
  unfold opO at h ⊢
  split
  · rfl
  · rename_i a; rw [if_neg a] at h; omega
theorem LV_or {t : Nat → Nat} {m n p : Nat} (h1n : 1 ≤ n) : ∀ d dep, dep + d = 6 → 1 ≤ dep → LV t m n p Lx4 1 (spOr t m n (d + 1)) dep := by
  intro d
  induction d with
  | zero =>
    intro dep hd h1
    have hp := LV_part (t := t) (m := m) (p := p) (d := 0) h1n h1 hd (fun d' h => by omega)
    have e : spOr t m n (0 + 1) = spBin t m (spBin t m (spNot t m (spTest t m (spBin t m (spBin t m (spPart t m n (spOr t m n 0)) opP) opS)) 6) opA) opO := by funext s; rw [spOr]
    rw [e]
    exact LV_bin (LV_bin (LV_not (LV_test (LV_bin (LV_bin hp (stp6 t m n p dep) ent0 opP_ok gP (by omega)) (stp5 t m n p dep) ent0 opS_ok gS (by omega)))) (stp2 t m n p dep) ent1 opA_ok gA (by omega)) (stp1 t m n p dep) ent1 opO_ok gO (by omega)
  | succ d ih =>
    intro dep hd h1
    have hp := LV_part (t := t) (m := m) (p := p) (d := d + 1) h1n h1 hd (fun d' h => ih (dep + 1) (by omega) (by omega))
    have e : spOr t m n (d + 1 + 1) = spBin t m (spBin t m (spNot t m (spTest t m (spBin t m (spBin t m (spPart t m n (spOr t m n (d + 1))) opP) opS)) 6) opA) opO := by funext s; rw [spOr]
    rw [e]
    exact LV_bin (LV_bin (LV_not (LV_test (LV_bin (LV_bin hp (stp6 t m n p dep) ent0 opP_ok gP (by omega)) (stp5 t m n p dep) ent0 opS_ok gS (by omega)))) (stp2 t m n p dep) ent1 opA_ok gA (by omega)) (stp1 t m n p dep) ent1 opO_ok gO (by omega)
/-- the same, whatever the depth -/
def MR0 (t : Nat → Nat) (m n : Nat) (I : HI) (J : HJ) (s : Nat) : Prop := TxtM t m I ∧ s ≤ m ∧ TkM t m s I J ∧ I 0 17 = 0 ∧ I 0 1 = nI n ∧ n ≤ 8
theorem MR.r0 {t : Nat → Nat} {m n s dep : Nat} {I : HI} {J : HJ} (h : MR t m n I J s dep) : MR0 t m n I J s := ⟨h.1, h.2.1, h.2.2.1, h.2.2.2.1, h.2.2.2.2.1, h.2.2.2.2.2.1⟩
theorem MR0.fr30 {t : Nat → Nat} {m n s dep2 : Nat} {I I' : HI} {J : HJ} (h : MR0 t m n I J s) (f : ∀ i, i ≠ 28 → i ≠ 29 → i ≠ 30 → I' 0 i = I 0 i) (f2 : ∀ k, I' 10 k = I 10 k) (h3 : I' 0 30 = nI dep2) (h4 : dep2 ≤ 6) : MR t m n I' J s dep2 := by
  obtain ⟨a1, a2, a3, a4, a5, a6⟩ := h
  exact ⟨⟨(f 19 (by omega) (by omega) (by omega)).trans a1.1, a1.2.1, fun k hk => ⟨(f2 k).trans (a1.2.2 k hk).1, (a1.2.2 k hk).2⟩⟩, a2, a3.fr (fun i h1 h2 => f i (by omega) (by omega) (by omega)), (f 17 (by omega) (by omega) (by omega)).trans a4, (f 1 (by omega) (by omega) (by omega)).trans a5, a6, h3, h4⟩
theorem MR0.go {t : Nat → Nat} {m n s : Nat} {I : HI} {J : HJ} {Q : HI → HJ → Prop} (h : MR0 t m n I J s) (K : ∀ I' J', FrG I I' → MR0 t m n I' J' (nxt t m s) → Q I' J') : M_goes I J Q := by
  obtain ⟨a1, a2, a3, a4, a5, a6⟩ := h
  exact M_goes_k a1 a3.1 (tE_le t a2) (fun I' J' f k => K I' J' f ⟨a1.fr f, nxt_le t a2, k, (f 0 17 (by omega)).trans a4, (f 0 1 (by omega)).trans a5, a6⟩)
/-- what is owed of an expression -/
def XQ (t : Nat → Nat) (m n p : Nat) (Q : Int32 → HI → HJ → Prop) (I : HI) (r : Rs) : Prop := match r with
  | .error e => ∀ I' J', FrF p I I' → I' 0 17 = nI e.1 → I' 0 18 = nI e.2 → Q (nI p) I' J'
  | .ok r => ∀ I' J', FrP p 0 I I' → MR0 t m n I' J' r.1 → I' 0 28 = nI (p + mlE r.2 + 1) → OU I' p r.2 → I' 14 (p + mlE r.2) = 0 → p + mlE r.2 ≤ 2 * r.1 → Q (nI p) I' J'
theorem mExpr {t : Nat → Nat} {m n p s : Nat} {I : HI} {J : HJ} {Q : Int32 → HI → HJ → Prop} (h1n : 1 ≤ n) (hR : MR0 t m n I J s) (hp : I 0 28 = nI p) (hp2 : p ≤ 2 * s) (K : XQ t m n p Q I (spOr t m n 6 s)) : M_expression I J Q := by
  have hsm := hR.2.1
  have hm := hR.1.2.1
  unfold M_expression
  rw [hp]
  refine mGood hR.2.2.2.1 (ie (by decide) ?_)
  have hR1 : MR t m n (up2 (up2 I 0 29 0) 0 30 0) J s 0 := hR.fr30 (fun i _ h2 h3 => by rw [up2_idx _ _ _ h3, up2_idx _ _ _ h2]) (fun k => by rw [up2_ne _ _ _ (by decide), up2_ne _ _ _ (by decide)]) (up2_same _ _ _ _) (by omega)
  have hM1 : MM (up2 (up2 I 0 29 0) 0 30 0) p [] [] := ⟨by rw [up2_idx _ _ _ (by decide), up2_idx _ _ _ (by decide), hp]; rfl, OU.nil _ _, by rw [up2_idx _ _ _ (by decide), up2_same]; rfl, trivial, by simp only [mlE, mcl, List.length_nil]; omega, by simp, fun o h => absurd h List.not_mem_nil⟩
  have g1 : FrP p 0 I (up2 (up2 I 0 29 0) 0 30 0) := fun a i n1 n2 n3 n4 => by rw [up2_get, if_neg (by omega), up2_get, if_neg (by omega)]
  refine LB_or (t := t) (m := m) (n := n) (p := p) (d := 6) (dep := 0) (x1 := nI p) (Q := Q) (nF := m + 2) (n4 := 7) (Qo := fun I5 J6 => ∃ nn, M_expression_l35 (nI p) Q nn I5 J6 1) (by decide) (fun d' h => LV_or h1n 5 1 (by decide) (by decide)) (fun I' h => ⟨7, h⟩) ⟨hR1, hM1, by simp only [mlE, mcl, List.length_nil]; omega, by simp⟩ trivial (by omega) (by decide) (fun I' J' h => ⟨_, h⟩) ?_
  cases hq : spOr t m n 6 s with
  | error e =>
    rw [hq] at K
    intro I' J' f e1 e2
    exact K I' J' (g1.fF.trans f) e1 e2
  | ok r =>
    rw [hq] at K
    intro nF2 I2 J2 P2 Eo2 hF2 hS2 he2 hP2 hf2 ht2
    have hen := EN_or h1n hsm hq
    rw [List.nil_append] at hS2
    have hdr := hS2.dr
    rw [List.append_nil] at hS2
    have hsm2 := hS2.1.2.1
    obtain ⟨k, rfl⟩ : ∃ k, nF2 = k + 2 := ⟨nF2 - 2, by omega⟩
    refine mLeave hS2.1 hen.1 hen.2.1 hen.2.2.1 hen.2.2.2 (ht2 (by omega)) (fun _ => by omega) (mEnd1 hS2 (by omega) (fun o h => (hP2 o h).1) (fun I3 f3 e28 hO e14 => ?_))
    rw [he2] at e28 hO e14 hdr
    exact K I3 J2 (g1.trans (hf2.trans (FrS.frP (e := 1) f3) (Nat.le_refl _)) (Nat.zero_le _)) (hS2.1.frS f3).r0 e28 hO e14 (by simp only [List.length_nil] at hdr; omega)
