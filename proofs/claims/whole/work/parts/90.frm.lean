/-! a formula is made -/
def own5 (own : Nat → Nat) (f k l q v : Nat) : Nat → Nat := fun b => if b = f ∨ b = k ∨ b = l ∨ b = q then 2 else if b = v then 3 else own b
theorem own5_ok {own : Nat → Nat} {ro : Nat} {L L' : HL} {f k l q v : Nat} (O : Own own ro L) (hf : ∀ p ∈ L, p.1 < f) (hk : ∀ p ∈ L, p.1 < k) (hl : ∀ p ∈ L, p.1 < l) (hq : ∀ p ∈ L, p.1 < q) (hv : ∀ p ∈ L, p.1 < v) (hd : v ≠ f ∧ v ≠ k ∧ v ≠ l ∧ v ≠ q) (hL : ∀ p ∈ L, p ∈ L') (mf : ∃ p ∈ L', p.1 = f) (mk : ∃ p ∈ L', p.1 = k) (ml : ∃ p ∈ L', p.1 = l) (mq : ∃ p ∈ L', p.1 = q) (mv : ∃ p ∈ L', p.1 = v) :
    Own (own5 own f k l q v) ro L' ∧ (∀ b, own b ≠ 0 → own5 own f k l q v b = own b) ∧ (∀ b, (∃ p ∈ L, p.1 = b) → own5 own f k l q v b = own b) ∧ own5 own f k l q v f = 2 ∧ own5 own f k l q v k = 2 ∧ own5 own f k l q v l = 2 ∧ own5 own f k l q v q = 2 ∧ own5 own f k l q v v = 3 := by
  obtain ⟨o1, o2, o3, o4, o5⟩ := O
  have rf := hf _ o4
  have rk := hk _ o4
  have rl := hl _ o4
  have rq := hq _ o4
  have rv := hv _ o4
  dsimp only at rf rk rl rq rv
  have old : ∀ b, (∃ p ∈ L, p.1 = b) → own5 own f k l q v b = own b := by
    rintro b ⟨p, hp, rfl⟩
    have h1 := hf p hp
    have h2 := hk p hp
    have h3 := hl p hp
    have h4 := hq p hp
    have h5 := hv p hp
    unfold own5
    rw [if_neg (by omega), if_neg (by omega)]
  refine ⟨⟨fun b hb => ?_, ?_, fun b hb => ?_, hL _ o4, o5⟩, fun b hb => old b (o3 b hb), old, ?_, ?_, ?_, ?_, ?_⟩
  · unfold own5; rw [if_neg (by omega), if_neg (by omega)]; exact o1 b hb
  · rw [old ro ⟨_, o4, rfl⟩]; exact o2
  · unfold own5 at hb
    by_cases c : b = f ∨ b = k ∨ b = l ∨ b = q
    · rcases c with rfl | rfl | rfl | rfl
      · exact mf
      · exact mk
      · exact ml
      · exact mq
    · rw [if_neg c] at hb
      by_cases c2 : b = v
      · rw [c2]; exact mv
      · rw [if_neg c2] at hb
        obtain ⟨p, hp, he⟩ := o3 b hb
        exact ⟨p, hL p hp, he⟩
  · unfold own5; rw [if_pos (by omega)]
  · unfold own5; rw [if_pos (by omega)]
  · unfold own5; rw [if_pos (by omega)]
  · unfold own5; rw [if_pos (by omega)]
  · unfold own5; rw [if_neg (by omega), if_pos rfl]
/-- what stands behind a formula's making -/
def FrmM (own : Nat → Nat) (ro : Nat) (I : HI) (F : HR) (L : HL) (c : Option AC × AC) (f : Nat) (I' : HI) (F' : HR) (L' : HL) (own' : Nat → Nat) : Prop := Own own' ro L' ∧ (∀ b, own b ≠ 0 → own' b = own b) ∧ Ext F L F' L' ∧ (∀ b i, (∃ p ∈ L, p.1 = b) → I' b i = I b i) ∧ Frep I' F' L' own' f c ∧ (f, 8, 0) ∈ L'
/-- a formula's making by itself: five new cells -/
def FrmR (I : HI) (F : HR) (L : HL) (c : Option AC × AC) (f k l q v : Nat) (I' : HI) (F' : HR) (L' : HL) : Prop := (∀ p ∈ L, p.1 < f) ∧ (∀ p ∈ L, p.1 < k) ∧ (∀ p ∈ L, p.1 < l) ∧ (∀ p ∈ L, p.1 < q) ∧ (∀ p ∈ L, p.1 < v) ∧ (v ≠ f ∧ v ≠ k ∧ v ≠ l ∧ v ≠ q) ∧ Ext F L F' L' ∧ (∀ b i, (∃ p ∈ L, p.1 = b) → I' b i = I b i) ∧ FrmSh F' L' f ((c.1.getD []).length + c.2.length) k l q v ∧ I' f 4 = nI (c.1.getD []).length ∧ crel I' k l q (c.1.getD []) 0 [] ∧ crel I' k l q c.2 (c.1.getD []).length []
theorem FrmR.rep {I : HI} {F : HR} {L : HL} {c : Option AC × AC} {f k l q v : Nat} {I' : HI} {F' : HR} {L' : HL} (M : FrmR I F L c f k l q v I' F' L') {own : Nat → Nat} (o1 : own f = 2) (o2 : own k = 2) (o3 : own l = 2) (o4 : own q = 2) (o5 : own v = 3) : Frep I' F' L' own f c :=
  ⟨_, k, l, q, v, M.2.2.2.2.2.2.2.2.1, o1, o2, o3, o4, o5, rfl, M.2.2.2.2.2.2.2.2.2.1, M.2.2.2.2.2.2.2.2.2.2.1, M.2.2.2.2.2.2.2.2.2.2.2⟩
theorem ltl {L : HL} {x : Nat × Nat × Nat} {q : Nat} (h : ∀ p ∈ L ++ [x], p.1 < q) : (∀ p ∈ L, p.1 < q) ∧ x.1 < q := ⟨fun p hp => h p (List.mem_append_left _ hp), h x (mem_last L x)⟩
theorem Frm_first_k {I : HI} {T F : HR} {L : HL} (hG : Geo F L) {Q : Nat → HI → HR → HR → HL → Prop} (hQ : ∀ f k l q v I' F' L', FrmR I F L (lc 0) f k l q v I' F' L' → Q f I' T F' L') : Frm_ofFirstInLine I T F L Q := by
  intro f hf k hk l hl q hq v hv
  obtain ⟨hk1, fk⟩ := ltl hk
  obtain ⟨hl1, kl⟩ := ltl hl
  obtain ⟨hl2, fl⟩ := ltl hl1
  obtain ⟨hq1, lq⟩ := ltl hq
  obtain ⟨hq2, kq⟩ := ltl hq1
  obtain ⟨hq3, fq⟩ := ltl hq2
  obtain ⟨hv1, qv⟩ := ltl hv
  obtain ⟨hv2, lv⟩ := ltl hv1
  obtain ⟨hv3, kv⟩ := ltl hv2
  obtain ⟨hv4, fv⟩ := ltl hv3
  dsimp only at fk kl fl lq kq fq qv lv kv fv
  have hext : Ext F L (up2 (up2 (up2 (up2 (up1 F f (fun _ => none)) f 0 (some k)) f 1 (some l)) f 2 (some q)) f 3 (some v)) (((((L ++ [(f, 8, 0)]) ++ [(k, 0, 1)]) ++ [(l, 0, 1)]) ++ [(q, 0, 1)]) ++ [(v, 0, 1)]) := by
    refine ⟨fun p hp => by simp [hp], fun p hp => ?_⟩
    have hne : p.1 ≠ f := Nat.ne_of_lt (hf p hp)
    rw [up2_ne _ _ _ hne, up2_ne _ _ _ hne, up2_ne _ _ _ hne, up2_ne _ _ _ hne, up1_ne _ _ hne]
  have hsh : FrmSh (up2 (up2 (up2 (up2 (up1 F f (fun _ => none)) f 0 (some k)) f 1 (some l)) f 2 (some q)) f 3 (some v)) (((((L ++ [(f, 8, 0)]) ++ [(k, 0, 1)]) ++ [(l, 0, 1)]) ++ [(q, 0, 1)]) ++ [(v, 0, 1)]) f 1 k l q v := by
    unfold FrmSh
    simp [up2_get]
  refine ⟨by omega, geo_ext hext hG, by simp, ?_⟩
  refine hQ f k l q v _ _ _ ⟨hf, hk1, hl2, hq3, hv4, by omega, hext, ?_, hsh, ?_, trivial, ?_⟩
  · rintro b i ⟨p, hp, rfl⟩
    have h1 := hf p hp
    have h2 := hk1 p hp
    have h3 := hl2 p hp
    have h4 := hq3 p hp
    have h5 := hv4 p hp
    rw [up1_ne _ _ (by omega), up2_get, if_neg (by omega), up2_get, if_neg (by omega), up1_ne _ _ (by omega), up2_get, if_neg (by omega), up1_ne _ _ (by omega), up2_get, if_neg (by omega), up1_ne _ _ (by omega), up1_ne _ _ (by omega)]
  · rw [up1_ne _ _ (by omega), up2_same]; rfl
  · refine ⟨?_, ?_, trivial⟩
    · rw [up1_ne _ _ (by omega), up2_get, if_neg (by omega), up2_get, if_neg (by omega), up1_ne _ _ (by omega), up2_get, if_neg (by omega), up1_ne _ _ (by omega)]; exact up2_same _ _ _ _
    · rw [up1_ne _ _ (by omega), up2_get, if_neg (by omega), up2_get, if_neg (by omega), up1_ne _ _ (by omega)]; exact up2_same _ _ _ _
theorem Frm_next_k {I : HI} {T F : HR} {L : HL} {w : Nat} (hG : Geo F L) (hw : w ≠ 0) {Q : Nat → HI → HR → HR → HL → Prop} (hQ : ∀ f k l q v I' F' L', FrmR I F L (lc w) f k l q v I' F' L' → Q f I' T F' L') : Frm_ofNextInLine I T F L Q := by
  intro k hk l hl q hq f hf v hv
  obtain ⟨hl1, kl⟩ := ltl hl
  obtain ⟨hq1, lq⟩ := ltl hq
  obtain ⟨hq2, kq⟩ := ltl hq1
  obtain ⟨hf1, qf⟩ := ltl hf
  obtain ⟨hf2, lf⟩ := ltl hf1
  obtain ⟨hf3, kf⟩ := ltl hf2
  obtain ⟨hv1, fv⟩ := ltl hv
  obtain ⟨hv2, qv⟩ := ltl hv1
  obtain ⟨hv3, lv⟩ := ltl hv2
  obtain ⟨hv4, kv⟩ := ltl hv3
  dsimp only at kl lq kq qf lf kf fv qv lv kv
  have hext : Ext F L (up2 (up2 (up2 (up2 (up1 F f (fun _ => none)) f 0 (some k)) f 1 (some l)) f 2 (some q)) f 3 (some v)) (((((L ++ [(k, 0, 7)]) ++ [(l, 0, 7)]) ++ [(q, 0, 7)]) ++ [(f, 8, 0)]) ++ [(v, 0, 7)]) := by
    refine ⟨fun p hp => by simp [hp], fun p hp => ?_⟩
    have hne : p.1 ≠ f := Nat.ne_of_lt (hf3 p hp)
    rw [up2_ne _ _ _ hne, up2_ne _ _ _ hne, up2_ne _ _ _ hne, up2_ne _ _ _ hne, up1_ne _ _ hne]
  have hsh : FrmSh (up2 (up2 (up2 (up2 (up1 F f (fun _ => none)) f 0 (some k)) f 1 (some l)) f 2 (some q)) f 3 (some v)) (((((L ++ [(k, 0, 7)]) ++ [(l, 0, 7)]) ++ [(q, 0, 7)]) ++ [(f, 8, 0)]) ++ [(v, 0, 7)]) f 7 k l q v := by
    unfold FrmSh
    simp [up2_get]
  refine ⟨by omega, geo_ext hext hG, by simp, by simp, by simp, by simp, ?_⟩
  generalize hJ : (up2 (up2 (up2 (up2 (up2 (up2 (up2 (up1 I k (fun _ => 0)) k 0 148) k 1 149) k 2 45) k 3 150) k 4 148) k 5 45) k 6 45) = J1
  generalize hJ2 : (up2 (up2 (up2 (up2 (up2 (up2 (up2 (up1 J1 l (fun _ => 0)) l 0 0) l 1 0) l 2 0) l 3 0) l 4 0) l 5 3) l 6 2) = J2
  generalize hJ3 : (up2 (up2 (up2 (up2 (up2 (up2 (up2 (up1 J2 q (fun _ => 0)) q 0 0) q 1 0) q 2 1) q 3 0) q 4 0) q 5 4) q 6 5) = J3
  have a1 : ∀ b i, b ≠ k → J1 b i = I b i := fun b i h => by rw [← hJ, up2_ne _ _ _ h, up2_ne _ _ _ h, up2_ne _ _ _ h, up2_ne _ _ _ h, up2_ne _ _ _ h, up2_ne _ _ _ h, up2_ne _ _ _ h, up1_ne _ _ h]
  have a2 : ∀ b i, b ≠ l → J2 b i = J1 b i := fun b i h => by rw [← hJ2, up2_ne _ _ _ h, up2_ne _ _ _ h, up2_ne _ _ _ h, up2_ne _ _ _ h, up2_ne _ _ _ h, up2_ne _ _ _ h, up2_ne _ _ _ h, up1_ne _ _ h]
  have a3 : ∀ b i, b ≠ q → J3 b i = J2 b i := fun b i h => by rw [← hJ3, up2_ne _ _ _ h, up2_ne _ _ _ h, up2_ne _ _ _ h, up2_ne _ _ _ h, up2_ne _ _ _ h, up2_ne _ _ _ h, up2_ne _ _ _ h, up1_ne _ _ h]
  have c1 : J1 k 0 = 148 ∧ J1 k 1 = 149 ∧ J1 k 2 = 45 ∧ J1 k 3 = 150 ∧ J1 k 4 = 148 ∧ J1 k 5 = 45 ∧ J1 k 6 = 45 := by rw [← hJ]; simp [up2_get]
  have c2 : J2 l 0 = 0 ∧ J2 l 1 = 0 ∧ J2 l 2 = 0 ∧ J2 l 3 = 0 ∧ J2 l 4 = 0 ∧ J2 l 5 = 3 ∧ J2 l 6 = 2 := by rw [← hJ2]; simp [up2_get]
  have c3 : J3 q 0 = 0 ∧ J3 q 1 = 0 ∧ J3 q 2 = 1 ∧ J3 q 3 = 0 ∧ J3 q 4 = 0 ∧ J3 q 5 = 4 ∧ J3 q 6 = 5 := by rw [← hJ3]; simp [up2_get]
  generalize hJ4 : up1 (up2 (up1 J3 f (fun _ => 0)) f 4 0) v (fun _ => 0) = J4
  have a4 : ∀ b i, b ≠ f → b ≠ v → J4 b i = J3 b i := fun b i h1 h2 => by rw [← hJ4, up1_ne _ _ h2, up2_ne _ _ _ h1, up1_ne _ _ h1]
  have kk : ∀ i, J4 k i = J1 k i := fun i => by rw [a4 _ _ (by omega) (by omega), a3 _ _ (by omega), a2 _ _ (by omega)]
  have ll : ∀ i, J4 l i = J2 l i := fun i => by rw [a4 _ _ (by omega) (by omega), a3 _ _ (by omega)]
  have qq : ∀ i, J4 q i = J3 q i := fun i => by rw [a4 _ _ (by omega) (by omega)]
  refine hQ f k l q v J4 _ _ ⟨hf3, hk, hl1, hq2, hv4, by omega, hext, ?_, ?_, ?_, ?_, ?_⟩
  · rintro b i ⟨p, hp, rfl⟩
    have h1 := hf3 p hp
    have h2 := hk p hp
    have h3 := hl1 p hp
    have h4 := hq2 p hp
    have h5 := hv4 p hp
    rw [a4 _ _ (by omega) (by omega), a3 _ _ (by omega), a2 _ _ (by omega), a1 _ _ (by omega)]
  · unfold lc; rw [if_neg hw]; exact hsh
  · rw [← hJ4, up1_ne _ _ (by omega), up2_same]; rfl
  · unfold lc; trivial
  · unfold lc
    rw [if_neg hw]
    simp only [crel, kk, ll, qq]
    obtain ⟨x0, x1, x2, x3, x4, x5, x6⟩ := c1
    obtain ⟨y0, y1, y2, y3, y4, y5, y6⟩ := c2
    obtain ⟨z0, z1, z2, z3, z4, z5, z6⟩ := c3
    exact ⟨x0, y0, x1, y1, x2, y2, z2, x3, y3, x4, y4, x5, y5, z5, x6, y6, z6, trivial⟩
