theorem dX11_count_0 : decode cX11_count 0 = .ok (.aload_n 0, 1) := by decide +kernel
theorem dX11_count_1 : decode cX11_count 1 = .ok (.iconst 0, 1) := by decide +kernel
theorem dX11_count_2 : decode cX11_count 2 = .ok (.putfield 174, 3) := by decide +kernel
theorem dX11_count_5 : decode cX11_count 5 = .ok (.aload_n 0, 1) := by decide +kernel
theorem dX11_count_6 : decode cX11_count 6 = .ok (.iload_n 1, 1) := by decide +kernel
theorem dX11_count_7 : decode cX11_count 7 = .ok (.ifCond .lt 13, 3) := by decide +kernel
theorem dX11_count_10 : decode cX11_count 10 = .ok (.iload_n 1, 1) := by decide +kernel
theorem dX11_count_11 : decode cX11_count 11 = .ok (.bipush 6, 2) := by decide +kernel
theorem dX11_count_13 : decode cX11_count 13 = .ok (.if_icmp .gt 7, 3) := by decide +kernel
theorem dX11_count_16 : decode cX11_count 16 = .ok (.iconst 1, 1) := by decide +kernel
theorem dX11_count_17 : decode cX11_count 17 = .ok (.goto 4, 3) := by decide +kernel
theorem dX11_count_20 : decode cX11_count 20 = .ok (.iconst 0, 1) := by decide +kernel
theorem dX11_count_21 : decode cX11_count 21 = .ok (.iconst 1, 1) := by decide +kernel
theorem dX11_count_22 : decode cX11_count 22 = .ok (.invokevirtual 203, 3) := by decide +kernel
theorem dX11_count_25 : decode cX11_count 25 = .ok (.ifCond .ne 5, 3) := by decide +kernel
theorem dX11_count_28 : decode cX11_count 28 = .ok (.iconst 0, 1) := by decide +kernel
theorem dX11_count_29 : decode cX11_count 29 = .ok (.ireturn, 1) := by decide +kernel
theorem dX11_count_30 : decode cX11_count 30 = .ok (.iconst 0, 1) := by decide +kernel
theorem dX11_count_31 : decode cX11_count 31 = .ok (.istore_n 2, 1) := by decide +kernel
theorem dX11_count_32 : decode cX11_count 32 = .ok (.iconst 0, 1) := by decide +kernel
theorem dX11_count_33 : decode cX11_count 33 = .ok (.istore_n 3, 1) := by decide +kernel
theorem dX11_count_34 : decode cX11_count 34 = .ok (.iload_n 3, 1) := by decide +kernel
theorem dX11_count_35 : decode cX11_count 35 = .ok (.aload_n 0, 1) := by decide +kernel
theorem dX11_count_36 : decode cX11_count 36 = .ok (.getfield 7, 3) := by decide +kernel
theorem dX11_count_39 : decode cX11_count 39 = .ok (.if_icmp .ge 27, 3) := by decide +kernel
theorem dX11_count_42 : decode cX11_count 42 = .ok (.iload_n 2, 1) := by decide +kernel
theorem dX11_count_43 : decode cX11_count 43 = .ok (.aload_n 0, 1) := by decide +kernel
theorem dX11_count_44 : decode cX11_count 44 = .ok (.getfield 32, 3) := by decide +kernel
theorem dX11_count_47 : decode cX11_count 47 = .ok (.iload_n 3, 1) := by decide +kernel
theorem dX11_count_48 : decode cX11_count 48 = .ok (.iaload, 1) := by decide +kernel
theorem dX11_count_49 : decode cX11_count 49 = .ok (.iconst 1, 1) := by decide +kernel
theorem dX11_count_50 : decode cX11_count 50 = .ok (.if_icmp .ne 7, 3) := by decide +kernel
theorem dX11_count_53 : decode cX11_count 53 = .ok (.iconst 1, 1) := by decide +kernel
theorem dX11_count_54 : decode cX11_count 54 = .ok (.goto 4, 3) := by decide +kernel
theorem dX11_count_57 : decode cX11_count 57 = .ok (.iconst 0, 1) := by decide +kernel
theorem dX11_count_58 : decode cX11_count 58 = .ok (.iadd, 1) := by decide +kernel
theorem dX11_count_59 : decode cX11_count 59 = .ok (.istore_n 2, 1) := by decide +kernel
theorem dX11_count_60 : decode cX11_count 60 = .ok (.iinc 3 1, 3) := by decide +kernel
theorem dX11_count_63 : decode cX11_count 63 = .ok (.goto (-29), 3) := by decide +kernel
theorem dX11_count_66 : decode cX11_count 66 = .ok (.iload_n 1, 1) := by decide +kernel
theorem dX11_count_67 : decode cX11_count 67 = .ok (.tableswitch 67 0 5 #[37, 42, 47, 52, 57, 62], 37) := by decide +kernel
theorem dX11_count_104 : decode cX11_count 104 = .ok (.aload_n 0, 1) := by decide +kernel
theorem dX11_count_105 : decode cX11_count 105 = .ok (.getfield 7, 3) := by decide +kernel
theorem dX11_count_108 : decode cX11_count 108 = .ok (.ireturn, 1) := by decide +kernel
theorem dX11_count_109 : decode cX11_count 109 = .ok (.aload_n 0, 1) := by decide +kernel
theorem dX11_count_110 : decode cX11_count 110 = .ok (.getfield 13, 3) := by decide +kernel
theorem dX11_count_113 : decode cX11_count 113 = .ok (.ireturn, 1) := by decide +kernel
theorem dX11_count_114 : decode cX11_count 114 = .ok (.aload_n 0, 1) := by decide +kernel
theorem dX11_count_115 : decode cX11_count 115 = .ok (.getfield 16, 3) := by decide +kernel
theorem dX11_count_118 : decode cX11_count 118 = .ok (.ireturn, 1) := by decide +kernel
theorem dX11_count_119 : decode cX11_count 119 = .ok (.aload_n 0, 1) := by decide +kernel
theorem dX11_count_120 : decode cX11_count 120 = .ok (.getfield 211, 3) := by decide +kernel
theorem dX11_count_123 : decode cX11_count 123 = .ok (.ireturn, 1) := by decide +kernel
theorem dX11_count_124 : decode cX11_count 124 = .ok (.aload_n 0, 1) := by decide +kernel
theorem dX11_count_125 : decode cX11_count 125 = .ok (.getfield 19, 3) := by decide +kernel
theorem dX11_count_128 : decode cX11_count 128 = .ok (.ireturn, 1) := by decide +kernel
theorem dX11_count_129 : decode cX11_count 129 = .ok (.aload_n 0, 1) := by decide +kernel
theorem dX11_count_130 : decode cX11_count 130 = .ok (.getfield 214, 3) := by decide +kernel
theorem dX11_count_133 : decode cX11_count 133 = .ok (.ireturn, 1) := by decide +kernel
theorem dX11_count_134 : decode cX11_count 134 = .ok (.iload_n 2, 1) := by decide +kernel
theorem dX11_count_135 : decode cX11_count 135 = .ok (.ireturn, 1) := by decide +kernel
section
variable {p : Program} {l : Launch} {e : Env} {R : Room} {s : State} {m : MethodId} {args : Array Value} {below : List Frame} {meth : Method} {c : Code} {D : va_G} {cA : Nat → ClassId} {z : Nat} {A : Nat → Prop} {T : HR}
theorem wkM_count_l34 {I : HI} {J : HJ} {x1 : Int32} {Q : Int32 → HI → Prop} (X : hX p m c s args RX11 cX11_count 4) (hr : meth.sig.returnType = (some .int)) (hlk : meth.locks = false) (hR : 1 ≤ R.frames ∧ 22 ≤ R.locals)   : ∀ (n : Nat) (x2 : Int32) (x3 : Int32) {ls : Array Slot} {H : Heap} {locs : List Loc}, M_count_l34 I x1 Q n x2 x3 → hW D cA z Ev0 (I, J, T, FM, LM) A s H locs → lv_has ls 4 [(0, .ref (z + 0)), (1, .int x1), (2, .int x2), (3, .int x3)] → W p l e R s m args below meth c H locs 0 0 (MQ below (va_Qi (pI J T FM LM Q) (hB D cA z A) A) args s 0 0 A) (F0 m 34 ls []) := by
  have hx := X.1
  have hb := X.2.1
  intro n
  induction n with
  | zero => intro x2 x3 ls H locs h; exact False.elim h
  | succ n ih =>
    intro x2 x3 ls H locs h hw hl
    rw [M_count_l34] at h
    refine lv_iload_n hx hb dX11_count_34 rfl (lv_at hl 3 rfl) ?_
    refine lv_aload_n hx hb dX11_count_35 rfl (lv_at hl 0 rfl) ?_
    refine hm_geti X hw lkM_7 LM_0 dX11_count_36 ?_
    refine lv_icmp_ge (tgt := 66) hx hb dX11_count_39 (by decide) (fun hc => ?_) (fun hc => ?_)
    · have h := Eq.mp (if_pos hc) h
      refine lv_iload_n hx hb dX11_count_66 rfl (lv_at hl 1 rfl) ?_
      by_cases hc0 : x1 = 0
      · have h := Eq.mp (if_pos hc0) h
        refine lv_tableIn (tgt := 104) (off := 37) hx hb dX11_count_67 (by rw [hc0]; decide) (by rw [hc0]; decide) (by rw [hc0]; decide) (by decide) ?_
        refine lv_aload_n hx hb dX11_count_104 rfl (lv_at hl 0 rfl) ?_
        refine hm_geti X hw lkM_7 LM_0 dX11_count_105 ?_
        exact hm_iret X hr hlk hw ⟨_, rfl, h⟩ dX11_count_108
      have h := Eq.mp (if_neg hc0) h
      by_cases hc1 : x1 = 1
      · have h := Eq.mp (if_pos hc1) h
        refine lv_tableIn (tgt := 109) (off := 42) hx hb dX11_count_67 (by rw [hc1]; decide) (by rw [hc1]; decide) (by rw [hc1]; decide) (by decide) ?_
        refine lv_aload_n hx hb dX11_count_109 rfl (lv_at hl 0 rfl) ?_
        refine hm_geti X hw lkM_13 LM_0 dX11_count_110 ?_
        exact hm_iret X hr hlk hw ⟨_, rfl, h⟩ dX11_count_113
      have h := Eq.mp (if_neg hc1) h
      by_cases hc2 : x1 = 2
      · have h := Eq.mp (if_pos hc2) h
        refine lv_tableIn (tgt := 114) (off := 47) hx hb dX11_count_67 (by rw [hc2]; decide) (by rw [hc2]; decide) (by rw [hc2]; decide) (by decide) ?_
        refine lv_aload_n hx hb dX11_count_114 rfl (lv_at hl 0 rfl) ?_
        refine hm_geti X hw lkM_16 LM_0 dX11_count_115 ?_
        exact hm_iret X hr hlk hw ⟨_, rfl, h⟩ dX11_count_118
      have h := Eq.mp (if_neg hc2) h
      by_cases hc3 : x1 = 3
      · have h := Eq.mp (if_pos hc3) h
        refine lv_tableIn (tgt := 119) (off := 52) hx hb dX11_count_67 (by rw [hc3]; decide) (by rw [hc3]; decide) (by rw [hc3]; decide) (by decide) ?_
        refine lv_aload_n hx hb dX11_count_119 rfl (lv_at hl 0 rfl) ?_
        refine hm_geti X hw lkM_211 LM_0 dX11_count_120 ?_
        exact hm_iret X hr hlk hw ⟨_, rfl, h⟩ dX11_count_123
      have h := Eq.mp (if_neg hc3) h
      by_cases hc4 : x1 = 4
      · have h := Eq.mp (if_pos hc4) h
        refine lv_tableIn (tgt := 124) (off := 57) hx hb dX11_count_67 (by rw [hc4]; decide) (by rw [hc4]; decide) (by rw [hc4]; decide) (by decide) ?_
        refine lv_aload_n hx hb dX11_count_124 rfl (lv_at hl 0 rfl) ?_
        refine hm_geti X hw lkM_19 LM_0 dX11_count_125 ?_
        exact hm_iret X hr hlk hw ⟨_, rfl, h⟩ dX11_count_128
      have h := Eq.mp (if_neg hc4) h
      by_cases hc5 : x1 = 5
      · have h := Eq.mp (if_pos hc5) h
        refine lv_tableIn (tgt := 129) (off := 62) hx hb dX11_count_67 (by rw [hc5]; decide) (by rw [hc5]; decide) (by rw [hc5]; decide) (by decide) ?_
        refine lv_aload_n hx hb dX11_count_129 rfl (lv_at hl 0 rfl) ?_
        refine hm_geti X hw lkM_214 LM_0 dX11_count_130 ?_
        exact hm_iret X hr hlk hw ⟨_, rfl, h⟩ dX11_count_133
      have h := Eq.mp (if_neg hc5) h
      refine hm_tabD (tgt := 134) [0, 1, 2, 3, 4, 5] hx hb dX11_count_67 (by decide) (by simp only [List.forall_mem_cons]; exact ⟨hc0, hc1, hc2, hc3, hc4, hc5, fun _ h => (by cases h)⟩) (by decide) ?_
      refine lv_iload_n hx hb dX11_count_134 rfl (lv_at hl 2 rfl) ?_
      exact hm_iret X hr hlk hw ⟨_, rfl, h⟩ dX11_count_135
    · have h := Eq.mp (if_neg hc) h
      refine lv_iload_n hx hb dX11_count_42 rfl (lv_at hl 2 rfl) ?_
      refine lv_aload_n hx hb dX11_count_43 rfl (lv_at hl 0 rfl) ?_
      refine hm_getr X hw lkM_32 LM_0 (b := 4) rfl dX11_count_44 ?_
      refine lv_iload_n hx hb dX11_count_47 rfl (lv_at hl 3 rfl) ?_
      obtain ⟨hi, h⟩ := h
      refine hm_iald X hw LM_4 hi dX11_count_48 ?_
      refine lv_iconst (v := 1) hx hb dX11_count_49 (by decide) ?_
      refine lv_icmp_ne (tgt := 57) hx hb dX11_count_50 (by decide) (fun hc => ?_) (fun hc => ?_)
      · have h := Eq.mp (if_neg hc) h
        refine lv_iconst (v := 0) hx hb dX11_count_57 (by decide) ?_
        refine lv_iadd hx hb dX11_count_58 ?_
        refine lv_istore_n (lv' := [(2, _), (0, _), (1, _), (3, _)]) hx hb dX11_count_59 rfl hl (by decide) rfl (fun ls hl => ?_)
        refine lv_iinc (v := x3 + 1) (lv' := [(3, _), (2, _), (0, _), (1, _)]) hx hb dX11_count_60 hl (k := 3) rfl rfl (by decide) rfl (fun ls hl => ?_)
        refine lv_goto (tgt := 34) hx hb dX11_count_63 (by decide) ?_
        exact ih _ _ h hw (lv_sub hl [2, 3, 1, 0] rfl)
      · have h := Eq.mp (if_pos hc) h
        refine lv_iconst (v := 1) hx hb dX11_count_53 (by decide) ?_
        refine lv_goto (tgt := 58) hx hb dX11_count_54 (by decide) ?_
        refine lv_iadd hx hb dX11_count_58 ?_
        refine lv_istore_n (lv' := [(2, _), (0, _), (1, _), (3, _)]) hx hb dX11_count_59 rfl hl (by decide) rfl (fun ls hl => ?_)
        refine lv_iinc (v := x3 + 1) (lv' := [(3, _), (2, _), (0, _), (1, _)]) hx hb dX11_count_60 hl (k := 3) rfl rfl (by decide) rfl (fun ls hl => ?_)
        refine lv_goto (tgt := 34) hx hb dX11_count_63 (by decide) ?_
        exact ih _ _ h hw (lv_sub hl [2, 3, 1, 0] rfl)

theorem wkM_count_b21 {I : HI} {J : HJ} {x1 : Int32} {t0 : Int32} {Q : Int32 → HI → Prop} (X : hX p m c s args RX11 cX11_count 4) (hr : meth.sig.returnType = (some .int)) (hlk : meth.locks = false) (hR : 1 ≤ R.frames ∧ 22 ≤ R.locals)   : ∀ {ls : Array Slot} {H : Heap} {locs : List Loc}, M_count_b21 I x1 t0 Q → hW D cA z Ev0 (I, J, T, FM, LM) A s H locs → lv_has ls 4 [(0, .ref (z + 0)), (1, .int x1)] → W p l e R s m args below meth c H locs 0 0 (MQ below (va_Qi (pI J T FM LM Q) (hB D cA z A) A) args s 0 0 A) (F0 m 21 ls [.int t0, .ref (z + 0)]) := by
  have hx := X.1
  have hb := X.2.1
  intro ls H locs h hw hl
  unfold M_count_b21 at h
  refine lv_iconst (v := 1) hx hb dX11_count_21 (by decide) ?_
  refine hm_calli hw (hm_runV (rest := []) hCl_true X hw (cM_right  h) ykM_right kw1594 rfl LM_0 rfl hl.1 rfl rfl rfl (Nat.le_of_ble_eq_true rfl) ⟨Nat.le_trans (Nat.le_of_ble_eq_true rfl) hR.1, Nat.le_trans (Nat.le_of_ble_eq_true rfl) hR.2⟩ ⟨Nat.zero_le _, Nat.zero_le _⟩ dX11_count_22) (fun r1 u3 H locs hp hw => ?_)
  obtain ⟨I2, rfl, h⟩ := hp
  refine lv_if_ne (tgt := 30) hx hb dX11_count_25 (by decide) (fun hc => ?_) (fun hc => ?_)
  · have h := Eq.mp (if_neg hc) h
    refine lv_iconst (v := 0) hx hb dX11_count_30 (by decide) ?_
    refine lv_istore_n (lv' := [(2, _), (0, _), (1, _)]) hx hb dX11_count_31 rfl hl (by decide) rfl (fun ls hl => ?_)
    refine lv_iconst (v := 0) hx hb dX11_count_32 (by decide) ?_
    refine lv_istore_n (lv' := [(3, _), (2, _), (0, _), (1, _)]) hx hb dX11_count_33 rfl hl (by decide) rfl (fun ls hl => ?_)
    obtain ⟨n2, h⟩ := h
    exact wkM_count_l34 X hr hlk hR   n2 _ _ h hw (lv_sub hl [2, 3, 1, 0] rfl)
  · have h := Eq.mp (if_pos hc) h
    refine lv_iconst (v := 0) hx hb dX11_count_28 (by decide) ?_
    exact hm_iret X hr hlk hw ⟨_, rfl, h⟩ dX11_count_29

theorem wkM_count_b20 {I : HI} {J : HJ} {x1 : Int32} {Q : Int32 → HI → Prop} (X : hX p m c s args RX11 cX11_count 4) (hr : meth.sig.returnType = (some .int)) (hlk : meth.locks = false) (hR : 1 ≤ R.frames ∧ 22 ≤ R.locals)   : ∀ {ls : Array Slot} {H : Heap} {locs : List Loc}, M_count_b20 I x1 Q → hW D cA z Ev0 (I, J, T, FM, LM) A s H locs → lv_has ls 4 [(0, .ref (z + 0)), (1, .int x1)] → W p l e R s m args below meth c H locs 0 0 (MQ below (va_Qi (pI J T FM LM Q) (hB D cA z A) A) args s 0 0 A) (F0 m 20 ls [.ref (z + 0)]) := by
  have hx := X.1
  have hb := X.2.1
  intro ls H locs h hw hl
  unfold M_count_b20 at h
  refine lv_iconst (v := 0) hx hb dX11_count_20 (by decide) ?_
  exact wkM_count_b21 X hr hlk hR   h hw (lv_sub hl [0, 1] rfl)

theorem cM_count {l : Launch} {D : va_G} {cA : Nat → ClassId} {z sz : Nat} {I : HI} {J : HJ} {x1 : Int32} {Q : Int32 → HI → Prop}  (h : M_count I x1 Q) : Met l yX11_count (hws0 yX11_count cX11_count 4 (some .int)) { frames := 1, cells := 0, slots := 0, locals := 22 } (hPc D cA z Ev0 (I, J, T, FM, LM) sz [.ref (z + 0), .int x1]) (va_Qi (pI J T FM LM Q) (hB D cA z (hA z LM sz)) (hA z LM sz)) 0 0 (hA z LM sz) := by
  refine hm_met (I, J, T, FM, LM) [.ref (z + 0), .int x1] rfl (by decide) (Nat.le_of_ble_eq_true rfl) ?_
  intro p e s m below meth c ls X hr hlk hnm hxt hsz hw hl
  have hl : lv_has ls 4 [(0, .ref (z + 0)), (1, .int x1)] := hl
  have hR : 1 ≤ ({ frames := 1, cells := 0, slots := 0, locals := 22 } : Room).frames ∧ 22 ≤ ({ frames := 1, cells := 0, slots := 0, locals := 22 } : Room).locals := ⟨Nat.le_refl _, Nat.le_refl _⟩
  generalize ({ frames := 1, cells := 0, slots := 0, locals := 22 } : Room) = R at hR ⊢
  clear hsz
  generalize (hA z LM sz) = A at hw ⊢
  have hx := X.1
  have hb := X.2.1
  unfold M_count at h
  refine lv_aload_n hx hb dX11_count_0 rfl (lv_at hl 0 rfl) ?_
  refine lv_iconst (v := 0) hx hb dX11_count_1 (by decide) ?_
  refine hm_puti X hw lkM_174 LM_0 rfl rfl dX11_count_2 (fun H locs hw => ?_)
  refine lv_aload_n hx hb dX11_count_5 rfl (lv_at hl 0 rfl) ?_
  refine lv_iload_n hx hb dX11_count_6 rfl (lv_at hl 1 rfl) ?_
  refine lv_if_lt (tgt := 20) hx hb dX11_count_7 (by decide) (fun hc => ?_) (fun hc => ?_)
  · have h := Eq.mp (if_pos hc) h
    exact wkM_count_b20 X hr hlk hR   h hw (lv_sub hl [0, 1] rfl)
  · have h := Eq.mp (if_neg hc) h
    refine lv_iload_n hx hb dX11_count_10 rfl (lv_at hl 1 rfl) ?_
    refine lv_bipush (v := 6) hx hb dX11_count_11 (by decide) ?_
    refine lv_icmp_gt (tgt := 20) hx hb dX11_count_13 (by decide) (fun hc => ?_) (fun hc => ?_)
    · have h := Eq.mp (if_pos hc) h
      exact wkM_count_b20 X hr hlk hR   h hw (lv_sub hl [0, 1] rfl)
    · have h := Eq.mp (if_neg hc) h
      refine lv_iconst (v := 1) hx hb dX11_count_16 (by decide) ?_
      refine lv_goto (tgt := 21) hx hb dX11_count_17 (by decide) ?_
      exact wkM_count_b21 X hr hlk hR   h hw (lv_sub hl [0, 1] rfl)

end
