theorem dX6_read_0 : decode cX6_read 0 = .ok (.aload_n 0, 1) := by decide +kernel
theorem dX6_read_1 : decode cX6_read 1 = .ok (.aload_n 1, 1) := by decide +kernel
theorem dX6_read_2 : decode cX6_read 2 = .ok (.putfield 24, 3) := by decide +kernel
theorem dX6_read_5 : decode cX6_read 5 = .ok (.aload_n 0, 1) := by decide +kernel
theorem dX6_read_6 : decode cX6_read 6 = .ok (.iload_n 2, 1) := by decide +kernel
theorem dX6_read_7 : decode cX6_read 7 = .ok (.putfield 28, 3) := by decide +kernel
theorem dX6_read_10 : decode cX6_read 10 = .ok (.aload_n 0, 1) := by decide +kernel
theorem dX6_read_11 : decode cX6_read 11 = .ok (.iload_n 3, 1) := by decide +kernel
theorem dX6_read_12 : decode cX6_read 12 = .ok (.putfield 31, 3) := by decide +kernel
theorem dX6_read_15 : decode cX6_read 15 = .ok (.aload_n 0, 1) := by decide +kernel
theorem dX6_read_16 : decode cX6_read 16 = .ok (.iconst 0, 1) := by decide +kernel
theorem dX6_read_17 : decode cX6_read 17 = .ok (.putfield 9, 3) := by decide +kernel
theorem dX6_read_20 : decode cX6_read 20 = .ok (.aload_n 0, 1) := by decide +kernel
theorem dX6_read_21 : decode cX6_read 21 = .ok (.iconst (-1), 1) := by decide +kernel
theorem dX6_read_22 : decode cX6_read 22 = .ok (.putfield 15, 3) := by decide +kernel
theorem dX6_read_25 : decode cX6_read 25 = .ok (.aload_n 0, 1) := by decide +kernel
theorem dX6_read_26 : decode cX6_read 26 = .ok (.iconst 0, 1) := by decide +kernel
theorem dX6_read_27 : decode cX6_read 27 = .ok (.putfield 34, 3) := by decide +kernel
theorem dX6_read_30 : decode cX6_read 30 = .ok (.aload_n 0, 1) := by decide +kernel
theorem dX6_read_31 : decode cX6_read 31 = .ok (.sipush 128, 3) := by decide +kernel
theorem dX6_read_34 : decode cX6_read 34 = .ok (.putfield 40, 3) := by decide +kernel
theorem dX6_read_37 : decode cX6_read 37 = .ok (.iconst 0, 1) := by decide +kernel
theorem dX6_read_38 : decode cX6_read 38 = .ok (.istore 4, 2) := by decide +kernel
theorem dX6_read_40 : decode cX6_read 40 = .ok (.iload 4, 2) := by decide +kernel
theorem dX6_read_42 : decode cX6_read 42 = .ok (.bipush 8, 2) := by decide +kernel
theorem dX6_read_44 : decode cX6_read 44 = .ok (.if_icmp .ge 17, 3) := by decide +kernel
theorem dX6_read_47 : decode cX6_read 47 = .ok (.aload_n 0, 1) := by decide +kernel
theorem dX6_read_48 : decode cX6_read 48 = .ok (.getfield 20, 3) := by decide +kernel
theorem dX6_read_51 : decode cX6_read 51 = .ok (.iload 4, 2) := by decide +kernel
theorem dX6_read_53 : decode cX6_read 53 = .ok (.aconst_null, 1) := by decide +kernel
theorem dX6_read_54 : decode cX6_read 54 = .ok (.aastore, 1) := by decide +kernel
theorem dX6_read_55 : decode cX6_read 55 = .ok (.iinc 4 1, 3) := by decide +kernel
theorem dX6_read_58 : decode cX6_read 58 = .ok (.goto (-18), 3) := by decide +kernel
theorem dX6_read_61 : decode cX6_read 61 = .ok (.aload_n 0, 1) := by decide +kernel
theorem dX6_read_62 : decode cX6_read 62 = .ok (.invokevirtual 58, 3) := by decide +kernel
theorem dX6_read_65 : decode cX6_read 65 = .ok (.iconst 0, 1) := by decide +kernel
theorem dX6_read_66 : decode cX6_read 66 = .ok (.istore 4, 2) := by decide +kernel
theorem dX6_read_68 : decode cX6_read 68 = .ok (.iload 4, 2) := by decide +kernel
theorem dX6_read_70 : decode cX6_read 70 = .ok (.bipush 16, 2) := by decide +kernel
theorem dX6_read_72 : decode cX6_read 72 = .ok (.if_icmp .gt 66, 3) := by decide +kernel
theorem dX6_read_75 : decode cX6_read 75 = .ok (.aload_n 0, 1) := by decide +kernel
theorem dX6_read_76 : decode cX6_read 76 = .ok (.getfield 40, 3) := by decide +kernel
theorem dX6_read_79 : decode cX6_read 79 = .ok (.sipush 128, 3) := by decide +kernel
theorem dX6_read_82 : decode cX6_read 82 = .ok (.if_icmp .eq 56, 3) := by decide +kernel
theorem dX6_read_85 : decode cX6_read 85 = .ok (.aload_n 0, 1) := by decide +kernel
theorem dX6_read_86 : decode cX6_read 86 = .ok (.getfield 40, 3) := by decide +kernel
theorem dX6_read_89 : decode cX6_read 89 = .ok (.sipush 130, 3) := by decide +kernel
theorem dX6_read_92 : decode cX6_read 92 = .ok (.if_icmp .eq 46, 3) := by decide +kernel
theorem dX6_read_95 : decode cX6_read 95 = .ok (.aload_n 0, 1) := by decide +kernel
theorem dX6_read_96 : decode cX6_read 96 = .ok (.getfield 40, 3) := by decide +kernel
theorem dX6_read_99 : decode cX6_read 99 = .ok (.sipush 141, 3) := by decide +kernel
theorem dX6_read_102 : decode cX6_read 102 = .ok (.if_icmp .eq 11, 3) := by decide +kernel
theorem dX6_read_105 : decode cX6_read 105 = .ok (.aload_n 0, 1) := by decide +kernel
theorem dX6_read_106 : decode cX6_read 106 = .ok (.iconst 1, 1) := by decide +kernel
theorem dX6_read_107 : decode cX6_read 107 = .ok (.invokevirtual 61, 3) := by decide +kernel
theorem dX6_read_110 : decode cX6_read 110 = .ok (.goto 22, 3) := by decide +kernel
theorem dX6_read_113 : decode cX6_read 113 = .ok (.iload 4, 2) := by decide +kernel
theorem dX6_read_115 : decode cX6_read 115 = .ok (.bipush 16, 2) := by decide +kernel
theorem dX6_read_117 : decode cX6_read 117 = .ok (.if_icmp .ne 11, 3) := by decide +kernel
theorem dX6_read_120 : decode cX6_read 120 = .ok (.aload_n 0, 1) := by decide +kernel
theorem dX6_read_121 : decode cX6_read 121 = .ok (.iconst 2, 1) := by decide +kernel
theorem dX6_read_122 : decode cX6_read 122 = .ok (.invokevirtual 61, 3) := by decide +kernel
theorem dX6_read_125 : decode cX6_read 125 = .ok (.goto 7, 3) := by decide +kernel
theorem dX6_read_128 : decode cX6_read 128 = .ok (.aload_n 0, 1) := by decide +kernel
theorem dX6_read_129 : decode cX6_read 129 = .ok (.invokevirtual 65, 3) := by decide +kernel
theorem dX6_read_132 : decode cX6_read 132 = .ok (.iinc 4 1, 3) := by decide +kernel
theorem dX6_read_135 : decode cX6_read 135 = .ok (.goto (-67), 3) := by decide +kernel
theorem dX6_read_138 : decode cX6_read 138 = .ok (.return_, 1) := by decide +kernel
theorem dX10_line_0 : decode cX10_line 0 = .ok (.aload_n 0, 1) := by decide +kernel
theorem dX10_line_1 : decode cX10_line 1 = .ok (.getfield 10, 3) := by decide +kernel
theorem dX10_line_4 : decode cX10_line 4 = .ok (.aload_n 0, 1) := by decide +kernel
theorem dX10_line_5 : decode cX10_line 5 = .ok (.getfield 93, 3) := by decide +kernel
theorem dX10_line_8 : decode cX10_line 8 = .ok (.aload_n 0, 1) := by decide +kernel
theorem dX10_line_9 : decode cX10_line 9 = .ok (.getfield 100, 3) := by decide +kernel
theorem dX10_line_12 : decode cX10_line 12 = .ok (.invokevirtual 339, 3) := by decide +kernel
theorem dX10_line_15 : decode cX10_line 15 = .ok (.aload_n 0, 1) := by decide +kernel
theorem dX10_line_16 : decode cX10_line 16 = .ok (.getfield 40, 3) := by decide +kernel
theorem dX10_line_19 : decode cX10_line 19 = .ok (.invokevirtual 111, 3) := by decide +kernel
theorem dX10_line_22 : decode cX10_line 22 = .ok (.aload_n 0, 1) := by decide +kernel
theorem dX10_line_23 : decode cX10_line 23 = .ok (.iconst 0, 1) := by decide +kernel
theorem dX10_line_24 : decode cX10_line 24 = .ok (.invokevirtual 343, 3) := by decide +kernel
theorem dX10_line_27 : decode cX10_line 27 = .ok (.ireturn, 1) := by decide +kernel
theorem dX10_rules_0 : decode cX10_rules 0 = .ok (.iload_n 1, 1) := by decide +kernel
theorem dX10_rules_1 : decode cX10_rules 1 = .ok (.ifCond .lt 11, 3) := by decide +kernel
theorem dX10_rules_4 : decode cX10_rules 4 = .ok (.iload_n 1, 1) := by decide +kernel
theorem dX10_rules_5 : decode cX10_rules 5 = .ok (.aload_n 0, 1) := by decide +kernel
theorem dX10_rules_6 : decode cX10_rules 6 = .ok (.getfield 55, 3) := by decide +kernel
theorem dX10_rules_9 : decode cX10_rules 9 = .ok (.if_icmp .le 13, 3) := by decide +kernel
theorem dX10_rules_12 : decode cX10_rules 12 = .ok (.new 143, 3) := by decide +kernel
theorem dX10_rules_15 : decode cX10_rules 15 = .ok (.dup, 1) := by decide +kernel
theorem dX10_rules_16 : decode cX10_rules 16 = .ok (.ldc 145, 2) := by decide +kernel
theorem dX10_rules_18 : decode cX10_rules 18 = .ok (.invokespecial 147, 3) := by decide +kernel
theorem dX10_rules_21 : decode cX10_rules 21 = .ok (.athrow, 1) := by decide +kernel
theorem dX10_rules_22 : decode cX10_rules 22 = .ok (.aload_n 0, 1) := by decide +kernel
theorem dX10_rules_23 : decode cX10_rules 23 = .ok (.iconst 0, 1) := by decide +kernel
theorem dX10_rules_24 : decode cX10_rules 24 = .ok (.putfield 55, 3) := by decide +kernel
theorem dX10_rules_27 : decode cX10_rules 27 = .ok (.aload_n 0, 1) := by decide +kernel
theorem dX10_rules_28 : decode cX10_rules 28 = .ok (.getfield 47, 3) := by decide +kernel
theorem dX10_rules_31 : decode cX10_rules 31 = .ok (.aload_n 0, 1) := by decide +kernel
theorem dX10_rules_32 : decode cX10_rules 32 = .ok (.getfield 51, 3) := by decide +kernel
theorem dX10_rules_35 : decode cX10_rules 35 = .ok (.iload_n 1, 1) := by decide +kernel
theorem dX10_rules_36 : decode cX10_rules 36 = .ok (.aload_n 0, 1) := by decide +kernel
theorem dX10_rules_37 : decode cX10_rules 37 = .ok (.getfield 10, 3) := by decide +kernel
theorem dX10_rules_40 : decode cX10_rules 40 = .ok (.getfield 150, 3) := by decide +kernel
theorem dX10_rules_43 : decode cX10_rules 43 = .ok (.invokevirtual 153, 3) := by decide +kernel
theorem dX10_rules_46 : decode cX10_rules 46 = .ok (.aload_n 0, 1) := by decide +kernel
theorem dX10_rules_47 : decode cX10_rules 47 = .ok (.getfield 47, 3) := by decide +kernel
theorem dX10_rules_50 : decode cX10_rules 50 = .ok (.getfield 157, 3) := by decide +kernel
theorem dX10_rules_53 : decode cX10_rules 53 = .ok (.ifCond .ne 24, 3) := by decide +kernel
theorem dX10_rules_56 : decode cX10_rules 56 = .ok (.aload_n 0, 1) := by decide +kernel
theorem dX10_rules_57 : decode cX10_rules 57 = .ok (.getfield 10, 3) := by decide +kernel
theorem dX10_rules_60 : decode cX10_rules 60 = .ok (.aload_n 0, 1) := by decide +kernel
theorem dX10_rules_61 : decode cX10_rules 61 = .ok (.getfield 47, 3) := by decide +kernel
theorem dX10_rules_64 : decode cX10_rules 64 = .ok (.getfield 160, 3) := by decide +kernel
theorem dX10_rules_67 : decode cX10_rules 67 = .ok (.invokevirtual 164, 3) := by decide +kernel
theorem dX10_rules_70 : decode cX10_rules 70 = .ok (.aload_n 0, 1) := by decide +kernel
theorem dX10_rules_71 : decode cX10_rules 71 = .ok (.getfield 40, 3) := by decide +kernel
theorem dX10_rules_74 : decode cX10_rules 74 = .ok (.invokevirtual 111, 3) := by decide +kernel
theorem dX10_rules_77 : decode cX10_rules 77 = .ok (.aload_n 0, 1) := by decide +kernel
theorem dX10_rules_78 : decode cX10_rules 78 = .ok (.getfield 47, 3) := by decide +kernel
theorem dX10_rules_81 : decode cX10_rules 81 = .ok (.getfield 157, 3) := by decide +kernel
theorem dX10_rules_84 : decode cX10_rules 84 = .ok (.ireturn, 1) := by decide +kernel
section
variable {p : Program} {l : Launch} {e : Env} {R : Room} {s : State} {m : MethodId} {args : Array Value} {below : List Frame} {meth : Method} {c : Code} {D : va_G} {cA : Nat → ClassId} {z : Nat} {A : Nat → Prop} {J : HJ}
theorem wkRd_read_l68 {b : Nat} {Q : HI → HR → HR → HL → Prop} (X : hX p m c s args RX6 cX6_read 5) (hr : meth.sig.returnType = none) (hlk : meth.locks = false) (hnm : meth.name = "read") (hR : 130 ≤ R.frames ∧ 3469 ≤ R.locals) (hRc : 85 ≤ R.cells ∧ b ≤ R.slots)   : ∀ (n : Nat) (I : HI) (T : HR) (F : HR) (L : HL) (x4 : Int32) (cl : Nat) (sl : Nat) {ls : Array Slot} {H : Heap} {locs : List Loc}, Geo F L → F 28 3 = some 34 → Rd_read_l68 b Q n I T F L x4 cl sl → hW D cA z EvC (I, J, T, F, L) A s H locs → lv_has ls 5 [(0, .ref (z + 28)), (4, .int x4)] → W p l e R s m args below meth c H locs cl sl (MQ below (va_Qv (pBv J Q) (hB D cA z A) A) args s 85 b A) (F0 m 68 ls []) := by
  have hx := X.1
  have hb := X.2.1
  intro n
  induction n with
  | zero => intro I T F L x4 cl sl ls H locs hG hTx h; exact False.elim h
  | succ n ih =>
    intro I T F L x4 cl sl ls H locs hG hTx h hw hl
    rw [Rd_read_l68] at h
    obtain ⟨hcl0, hsl0, h⟩ := h
    refine lv_iload hx hb dX6_read_68 (lv_at hl 1 rfl) ?_
    refine lv_bipush (v := 16) hx hb dX6_read_70 (by decide) ?_
    refine lv_icmp_gt (tgt := 138) hx hb dX6_read_72 (by decide) (fun hc => ?_) (fun hc => ?_)
    · have h := Eq.mp (if_pos hc) h
      refine W.widen (k := 85) (n := b) hcl0 hsl0 ?_
      exact hm_vret X hr hlk hw ⟨_, _, _, _, rfl, h⟩ dX6_read_138
    · have h := Eq.mp (if_neg hc) h
      refine lv_aload_n hx hb dX6_read_75 rfl (lv_at hl 0 rfl) ?_
      refine hm_geti X hw lk_6_40 (gl_28 hG) dX6_read_76 ?_
      refine lv_sipush (v := 128) hx hb dX6_read_79 (by decide) ?_
      refine lv_icmp_eq (tgt := 138) hx hb dX6_read_82 (by decide) (fun hc => ?_) (fun hc => ?_)
      · have h := Eq.mp (if_pos hc) h
        refine W.widen (k := 85) (n := b) hcl0 hsl0 ?_
        exact hm_vret X hr hlk hw ⟨_, _, _, _, rfl, h⟩ dX6_read_138
      · have h := Eq.mp (if_neg hc) h
        refine lv_aload_n hx hb dX6_read_85 rfl (lv_at hl 0 rfl) ?_
        refine hm_geti X hw lk_6_40 (gl_28 hG) dX6_read_86 ?_
        refine lv_sipush (v := 130) hx hb dX6_read_89 (by decide) ?_
        refine lv_icmp_eq (tgt := 138) hx hb dX6_read_92 (by decide) (fun hc => ?_) (fun hc => ?_)
        · have h := Eq.mp (if_pos hc) h
          refine W.widen (k := 85) (n := b) hcl0 hsl0 ?_
          exact hm_vret X hr hlk hw ⟨_, _, _, _, rfl, h⟩ dX6_read_138
        · have h := Eq.mp (if_neg hc) h
          refine lv_aload_n hx hb dX6_read_95 rfl (lv_at hl 0 rfl) ?_
          refine hm_geti X hw lk_6_40 (gl_28 hG) dX6_read_96 ?_
          refine lv_sipush (v := 141) hx hb dX6_read_99 (by decide) ?_
          refine lv_icmp_eq (tgt := 113) hx hb dX6_read_102 (by decide) (fun hc => ?_) (fun hc => ?_)
          · have h := Eq.mp (if_pos hc) h
            refine lv_iload hx hb dX6_read_113 (lv_at hl 1 rfl) ?_
            refine lv_bipush (v := 16) hx hb dX6_read_115 (by decide) ?_
            refine lv_icmp_ne (tgt := 128) hx hb dX6_read_117 (by decide) (fun hc => ?_) (fun hc => ?_)
            · have h := Eq.mp (if_neg hc) h
              refine lv_aload_n hx hb dX6_read_128 rfl (lv_at hl 0 rfl) ?_
              obtain ⟨eb3, hbc, hbs, h⟩ := h
              refine hm_callvA hw (hm_runV (rest := []) EvC_cl X hw (cRd_readRule hG hTx h) yk_X6_readRule kw964 rfl (gl_28 hG) rfl hl.1 rfl rfl rfl (Nat.le_of_ble_eq_true rfl) ⟨Nat.le_trans (Nat.le_of_ble_eq_true rfl) hR.1, Nat.le_trans (Nat.le_of_ble_eq_true rfl) hR.2⟩ ⟨Nat.le_trans hbc hRc.1, Nat.le_trans hbs hRc.2⟩ dX6_read_129) (fun u8 H locs hp hw => ?_)
              obtain ⟨I4, T5, F6, L7, rfl, h⟩ := hp
              obtain ⟨hG, hTx, h⟩ := h
              refine lv_iinc (v := x4 + 1) (lv' := [(4, _), (0, _)]) hx hb dX6_read_132 hl (k := 1) rfl rfl (by decide) rfl (fun ls hl => ?_)
              refine lv_goto (tgt := 68) hx hb dX6_read_135 (by decide) ?_
              exact ih _ _ _ _ _ _ _ hG hTx h hw (lv_sub hl [1, 0] rfl)
            · have h := Eq.mp (if_pos hc) h
              refine lv_aload_n hx hb dX6_read_120 rfl (lv_at hl 0 rfl) ?_
              refine lv_iconst (v := 2) hx hb dX6_read_121 (by decide) ?_
              refine hm_callv hw (hm_runV (rest := []) EvC_cl X hw (cRd_stop EvC_cl hG hTx h) yk_X6_stop kw960 rfl (gl_28 hG) rfl hl.1 rfl rfl rfl (Nat.le_of_ble_eq_true rfl) ⟨Nat.le_trans (Nat.le_of_ble_eq_true rfl) hR.1, Nat.le_trans (Nat.le_of_ble_eq_true rfl) hR.2⟩ ⟨Nat.le_trans hcl0 hRc.1, Nat.le_trans hsl0 hRc.2⟩ dX6_read_122) (fun u10 H locs hp hw => ?_)
              obtain ⟨I9, rfl, h⟩ := hp
              refine lv_goto (tgt := 132) hx hb dX6_read_125 (by decide) ?_
              refine lv_iinc (v := x4 + 1) (lv' := [(4, _), (0, _)]) hx hb dX6_read_132 hl (k := 1) rfl rfl (by decide) rfl (fun ls hl => ?_)
              refine lv_goto (tgt := 68) hx hb dX6_read_135 (by decide) ?_
              exact ih _ _ _ _ _ _ _ hG hTx h hw (lv_sub hl [1, 0] rfl)
          · have h := Eq.mp (if_neg hc) h
            refine lv_aload_n hx hb dX6_read_105 rfl (lv_at hl 0 rfl) ?_
            refine lv_iconst (v := 1) hx hb dX6_read_106 (by decide) ?_
            refine hm_callv hw (hm_runV (rest := []) EvC_cl X hw (cRd_stop EvC_cl hG hTx h) yk_X6_stop kw960 rfl (gl_28 hG) rfl hl.1 rfl rfl rfl (Nat.le_of_ble_eq_true rfl) ⟨Nat.le_trans (Nat.le_of_ble_eq_true rfl) hR.1, Nat.le_trans (Nat.le_of_ble_eq_true rfl) hR.2⟩ ⟨Nat.le_trans hcl0 hRc.1, Nat.le_trans hsl0 hRc.2⟩ dX6_read_107) (fun u12 H locs hp hw => ?_)
            obtain ⟨I11, rfl, h⟩ := hp
            refine lv_goto (tgt := 132) hx hb dX6_read_110 (by decide) ?_
            refine lv_iinc (v := x4 + 1) (lv' := [(4, _), (0, _)]) hx hb dX6_read_132 hl (k := 1) rfl rfl (by decide) rfl (fun ls hl => ?_)
            refine lv_goto (tgt := 68) hx hb dX6_read_135 (by decide) ?_
            exact ih _ _ _ _ _ _ _ hG hTx h hw (lv_sub hl [1, 0] rfl)

theorem wkRd_read_l40 {I : HI} {F : HR} {L : HL} {b : Nat} {Q : HI → HR → HR → HL → Prop} (X : hX p m c s args RX6 cX6_read 5) (hr : meth.sig.returnType = none) (hlk : meth.locks = false) (hnm : meth.name = "read") (hR : 130 ≤ R.frames ∧ 3469 ≤ R.locals) (hRc : 85 ≤ R.cells ∧ b ≤ R.slots) (hG : Geo F L) (hTx : F 28 3 = some 34)  : ∀ (n : Nat) (T : HR) (x4 : Int32) {ls : Array Slot} {H : Heap} {locs : List Loc}, Rd_read_l40 I F L b Q n T x4 → hW D cA z EvC (I, J, T, F, L) A s H locs → lv_has ls 5 [(0, .ref (z + 28)), (4, .int x4)] → W p l e R s m args below meth c H locs 0 0 (MQ below (va_Qv (pBv J Q) (hB D cA z A) A) args s 85 b A) (F0 m 40 ls []) := by
  have hx := X.1
  have hb := X.2.1
  intro n
  induction n with
  | zero => intro T x4 ls H locs h; exact False.elim h
  | succ n ih =>
    intro T x4 ls H locs h hw hl
    rw [Rd_read_l40] at h
    refine lv_iload hx hb dX6_read_40 (lv_at hl 1 rfl) ?_
    refine lv_bipush (v := 8) hx hb dX6_read_42 (by decide) ?_
    refine lv_icmp_ge (tgt := 61) hx hb dX6_read_44 (by decide) (fun hc => ?_) (fun hc => ?_)
    · have h := Eq.mp (if_pos hc) h
      refine lv_aload_n hx hb dX6_read_61 rfl (lv_at hl 0 rfl) ?_
      refine hm_callv hw (hm_runV (rest := []) EvC_cl X hw (cRd_next hG hTx h) yk_X6_next kw886 rfl (gl_28 hG) rfl hl.1 rfl rfl rfl (Nat.le_of_ble_eq_true rfl) ⟨Nat.le_trans (Nat.le_of_ble_eq_true rfl) hR.1, Nat.le_trans (Nat.le_of_ble_eq_true rfl) hR.2⟩ ⟨Nat.le_trans (Nat.le_of_ble_eq_true rfl) hRc.1, Nat.zero_le _⟩ dX6_read_62) (fun u2 H locs hp hw => ?_)
      obtain ⟨I1, rfl, h⟩ := hp
      refine lv_iconst (v := 0) hx hb dX6_read_65 (by decide) ?_
      refine lv_istore (lv' := [(4, _), (0, _)]) hx hb dX6_read_66 hl (by decide) rfl (fun ls hl => ?_)
      obtain ⟨n2, h⟩ := h
      exact wkRd_read_l68 X hr hlk hnm hR hRc   n2 _ _ _ _ _ _ _ hG hTx h hw (lv_sub hl [1, 0] rfl)
    · have h := Eq.mp (if_neg hc) h
      refine lv_aload_n hx hb dX6_read_47 rfl (lv_at hl 0 rfl) ?_
      refine hm_getr X hw lk_6_20 (gl_28 hG) (gf_28_2 hG) dX6_read_48 ?_
      refine lv_iload hx hb dX6_read_51 (lv_at hl 1 rfl) ?_
      refine lv_null hx hb dX6_read_53 ?_
      obtain ⟨hi, h⟩ := h
      refine hm_astq5 (v := none) X hw (gl_29 hG) (fun _ h => by cases h) hi dX6_read_54 (fun H locs hw => ?_)
      refine lv_iinc (v := x4 + 1) (lv' := [(4, _), (0, _)]) hx hb dX6_read_55 hl (k := 1) rfl rfl (by decide) rfl (fun ls hl => ?_)
      refine lv_goto (tgt := 40) hx hb dX6_read_58 (by decide) ?_
      exact ih _ _ h hw (lv_sub hl [1, 0] rfl)

theorem cRd_read {l : Launch} {D : va_G} {cA : Nat → ClassId} {z sz : Nat} {I : HI} {T : HR} {F : HR} {L : HL} {x2 : Int32} {x3 : Int32} {b : Nat} {Q : HI → HR → HR → HL → Prop} (hG : Geo F L) (h : Rd_read I T F L x2 x3 b Q) : Met l yX6_read (hws0 yX6_read cX6_read 5 none) { frames := 130, cells := 85, slots := b, locals := 3469 } (hPc D cA z EvC (I, J, T, F, L) sz [.ref (z + 28), .ref (z + 34), .int x2, .int x3]) (va_Qv (pBv J Q) (hB D cA z (hA z L sz)) (hA z L sz)) 85 b (hA z L sz) := by
  refine hm_met (I, J, T, F, L) [.ref (z + 28), .ref (z + 34), .int x2, .int x3] rfl (by decide) (Nat.le_of_ble_eq_true rfl) ?_
  intro p e s m below meth c ls X hr hlk hnm hxt hsz hw hl
  have hl : lv_has ls 5 [(0, .ref (z + 28)), (1, .ref (z + 34)), (2, .int x2), (3, .int x3)] := hl
  have hnm : meth.name = "read" := hnm
  have hR : 130 ≤ ({ frames := 130, cells := 85, slots := b, locals := 3469 } : Room).frames ∧ 3469 ≤ ({ frames := 130, cells := 85, slots := b, locals := 3469 } : Room).locals := ⟨Nat.le_refl _, Nat.le_refl _⟩
  have hRc : 85 ≤ ({ frames := 130, cells := 85, slots := b, locals := 3469 } : Room).cells ∧ b ≤ ({ frames := 130, cells := 85, slots := b, locals := 3469 } : Room).slots := ⟨Nat.le_refl _, Nat.le_refl _⟩
  generalize ({ frames := 130, cells := 85, slots := b, locals := 3469 } : Room) = R at hR hRc ⊢
  clear hsz
  generalize (hA z L sz) = A at hw ⊢
  have hx := X.1
  have hb := X.2.1
  unfold Rd_read at h
  refine lv_aload_n hx hb dX6_read_0 rfl (lv_at hl 0 rfl) ?_
  refine lv_aload_n hx hb dX6_read_1 rfl (lv_at hl 1 rfl) ?_
  refine hm_putr X hw lk_6_24 (fun h9 => (by cases h9)) (gl_28 hG) rfl rfl dX6_read_2 (fun H locs hw => ?_)
  obtain ⟨hG, h⟩ := h
  have hTx : (up2 F 28 3 (some 34)) 28 3 = some 34 := by simp [up2]
  refine lv_aload_n hx hb dX6_read_5 rfl (lv_at hl 0 rfl) ?_
  refine lv_iload_n hx hb dX6_read_6 rfl (lv_at hl 2 rfl) ?_
  refine hm_puti X hw lk_6_28 (gl_28 hG) rfl rfl dX6_read_7 (fun H locs hw => ?_)
  refine lv_aload_n hx hb dX6_read_10 rfl (lv_at hl 0 rfl) ?_
  refine lv_iload_n hx hb dX6_read_11 rfl (lv_at hl 3 rfl) ?_
  refine hm_puti X hw lk_6_31 (gl_28 hG) rfl rfl dX6_read_12 (fun H locs hw => ?_)
  refine lv_aload_n hx hb dX6_read_15 rfl (lv_at hl 0 rfl) ?_
  refine lv_iconst (v := 0) hx hb dX6_read_16 (by decide) ?_
  refine hm_puti X hw lk_6_9 (gl_28 hG) rfl rfl dX6_read_17 (fun H locs hw => ?_)
  refine lv_aload_n hx hb dX6_read_20 rfl (lv_at hl 0 rfl) ?_
  refine lv_iconst (v := (-1)) hx hb dX6_read_21 (by decide) ?_
  refine hm_puti X hw lk_6_15 (gl_28 hG) rfl rfl dX6_read_22 (fun H locs hw => ?_)
  refine lv_aload_n hx hb dX6_read_25 rfl (lv_at hl 0 rfl) ?_
  refine lv_iconst (v := 0) hx hb dX6_read_26 (by decide) ?_
  refine hm_puti X hw lk_6_34 (gl_28 hG) rfl rfl dX6_read_27 (fun H locs hw => ?_)
  refine lv_aload_n hx hb dX6_read_30 rfl (lv_at hl 0 rfl) ?_
  refine lv_sipush (v := 128) hx hb dX6_read_31 (by decide) ?_
  refine hm_puti X hw lk_6_40 (gl_28 hG) rfl rfl dX6_read_34 (fun H locs hw => ?_)
  refine lv_iconst (v := 0) hx hb dX6_read_37 (by decide) ?_
  refine lv_istore (lv' := [(4, _), (0, _), (1, _), (2, _), (3, _)]) hx hb dX6_read_38 hl (by decide) rfl (fun ls hl => ?_)
  obtain ⟨n2, h⟩ := h
  exact wkRd_read_l40 X hr hlk hnm hR hRc hG hTx  n2 _ _ h hw (lv_sub hl [1, 0] rfl)

theorem cH_line {l : Launch} {D : va_G} {cA : Nat → ClassId} {z sz : Nat} {I : HI} {T : HR} {F : HR} {L : HL}  {Q : Int32 → HI → HR → HR → HL → Prop} (hlt : l.stackTraces = false) (hG : Geo F L) (h : H_line I T F L  Q) : Met l yX10_line (hws0 yX10_line cX10_line 1 (some .int)) { frames := 8, cells := 1, slots := 6, locals := 173 } (hPc D cA z EvC (I, J, T, F, L) sz [.ref (z + 0)]) (va_Qi (pB J Q) (hB D cA z (hA z L sz)) (hA z L sz)) 1 6 (hA z L sz) := by
  refine hm_met (I, J, T, F, L) [.ref (z + 0)] rfl (by decide) (Nat.le_of_ble_eq_true rfl) ?_
  intro p e s m below meth c ls X hr hlk hnm hxt hsz hw hl
  have hl : lv_has ls 1 [(0, .ref (z + 0))] := hl
  have hnm : meth.name = "line" := hnm
  have hR : 8 ≤ ({ frames := 8, cells := 1, slots := 6, locals := 173 } : Room).frames ∧ 173 ≤ ({ frames := 8, cells := 1, slots := 6, locals := 173 } : Room).locals := ⟨Nat.le_refl _, Nat.le_refl _⟩
  have hRc : 1 ≤ ({ frames := 8, cells := 1, slots := 6, locals := 173 } : Room).cells ∧ 6 ≤ ({ frames := 8, cells := 1, slots := 6, locals := 173 } : Room).slots := ⟨Nat.le_refl _, Nat.le_refl _⟩
  generalize ({ frames := 8, cells := 1, slots := 6, locals := 173 } : Room) = R at hR hRc ⊢
  clear hsz
  generalize (hA z L sz) = A at hw ⊢
  have hx := X.1
  have hb := X.2.1
  unfold H_line at h
  refine lv_aload_n hx hb dX10_line_0 rfl (lv_at hl 0 rfl) ?_
  refine hm_getr X hw lk_10_10 (gl_0 hG) (gf_0_0 hG) dX10_line_1 ?_
  refine lv_aload_n hx hb dX10_line_4 rfl (lv_at hl 0 rfl) ?_
  obtain ⟨eg1, ehg2, ehm3, h⟩ := h
  refine hm_getr X hw lk_10_93 (gl_0 hG) ehg2 dX10_line_5 ?_
  refine lv_aload_n hx hb dX10_line_8 rfl (lv_at hl 0 rfl) ?_
  obtain ⟨eg4, ehg5, ehm6, h⟩ := h
  refine hm_getr X hw lk_10_100 (gl_0 hG) ehg5 dX10_line_9 ?_
  obtain ⟨en7, ek8, el9, eq10, ev11, ehf12, h⟩ := h
  obtain ⟨en13, ek14, el15, eq16, ev17, ehf18, h⟩ := h
  refine hm_callv hw (hm_runV (rest := []) EvC_cl X hw (cNet_standInLine EvC_cl (geo_net hG) ehf12 ehf18 h) yk_X5_standInLine kw709 rfl (gl_1 hG) rfl hl.1 rfl rfl rfl (Nat.le_of_ble_eq_true rfl) ⟨Nat.le_trans (Nat.le_of_ble_eq_true rfl) hR.1, Nat.le_trans (Nat.le_of_ble_eq_true rfl) hR.2⟩ ⟨Nat.le_trans (Nat.le_of_ble_eq_true rfl) hRc.1, Nat.le_trans (Nat.le_of_ble_eq_true rfl) hRc.2⟩ dX10_line_12) (fun u21 H locs hp hw => ?_)
  obtain ⟨I19, T20, rfl, h⟩ := hp
  refine lv_aload_n hx hb dX10_line_15 rfl (lv_at hl 0 rfl) ?_
  refine hm_getr X hw lk_10_40 (gl_0 hG) (gf_0_5 hG) dX10_line_16 ?_
  refine hm_callv hw (hm_runV (rest := []) EvC_cl X hw (cLed_spoil EvC_cl hG h) yk_X3_spoil kw515 rfl (gl_26 hG) rfl hl.1 rfl rfl rfl (Nat.le_of_ble_eq_true rfl) ⟨Nat.le_trans (Nat.le_of_ble_eq_true rfl) hR.1, Nat.le_trans (Nat.le_of_ble_eq_true rfl) hR.2⟩ ⟨Nat.le_trans (Nat.le_of_ble_eq_true rfl) hRc.1, Nat.le_trans (Nat.le_of_ble_eq_true rfl) hRc.2⟩ dX10_line_19) (fun u23 H locs hp hw => ?_)
  obtain ⟨I22, rfl, h⟩ := hp
  refine lv_aload_n hx hb dX10_line_22 rfl (lv_at hl 0 rfl) ?_
  refine lv_iconst (v := 0) hx hb dX10_line_23 (by decide) ?_
  refine hm_xcalli hw (hm_xrunV (rest := []) EvC_cl X hw (cH_worst hlt hG h) yk_X10_worst kw729 rfl (gl_0 hG) rfl hl.1 rfl rfl rfl (Nat.le_of_ble_eq_true rfl) ⟨Nat.le_trans (Nat.le_of_ble_eq_true rfl) hR.1, Nat.le_trans (Nat.le_of_ble_eq_true rfl) hR.2⟩ ⟨Nat.le_trans (Nat.le_of_ble_eq_true rfl) hRc.1, Nat.le_trans (Nat.le_of_ble_eq_true rfl) hRc.2⟩ dX10_line_24) (fun ce q9 u26 H locs hp hw hq hv hcl => ?_) (fun a24 u26 H locs hp hw => ?_)
  · obtain ⟨I25, rfl, h⟩ := hp
    exact False.elim h
  obtain ⟨I25, rfl, h⟩ := hp
  exact hm_iret X hr hlk hw ⟨_, _, _, _, rfl, h⟩ dX10_line_27

theorem wkH_rules_b12 {I : HI} {T : HR} {F : HR} {L : HL} {b : Nat} {Q : Int32 → HI → HR → HR → HL → Prop} {Xc : HI → HR → HR → HL → Prop} (X : hX p m c s args RX10 cX10_rules 2) (hr : meth.sig.returnType = (some .int)) (hlk : meth.locks = false) (hnm : meth.name = "rules") (hR : 131 ≤ R.frames ∧ 3493 ≤ R.locals) (hRc : 86 ≤ R.cells ∧ b + 6 ≤ R.slots) (hlt : l.stackTraces = false) (hxt : c.exceptionTable.isEmpty = true) (hG : Geo F L)  : ∀ {ls : Array Slot} {H : Heap} {locs : List Loc}, H_rules_b12 I T F L b Q Xc → hW D cA z EvC (I, J, T, F, L) A s H locs → lv_has ls 2 [] → W p l e R s m args below meth c H locs 0 0 (vx_MQ below (va_Qi (pB J Q) (hB D cA z A) A) (vx_X (pBv J Xc) (pX "java/lang/IllegalArgumentException" D cA z A) A) args s 86 (b + 6) A) (F0 m 12 ls []) := by
  have hx := X.1
  have hb := X.2.1
  intro ls H locs h hw hl
  unfold H_rules_b12 at h
  exact hm_thrI (is := 145) (text := "the tape has not so many bytes") hlt X hxt hlk hw (by decide) ⟨_, _, _, _, rfl, h⟩ hl.1 dX10_rules_12 dX10_rules_15 dX10_rules_16 dX10_rules_18 dX10_rules_21 ⟨Nat.le_trans (Nat.le_of_ble_eq_true rfl) hR.1, Nat.le_trans (Nat.le_of_ble_eq_true rfl) hR.2⟩ (Nat.le_trans (Nat.le_of_ble_eq_true rfl) hRc.1) (Nat.le_trans (by omega) hRc.2) (Nat.le_of_ble_eq_true rfl) (by omega)

theorem cH_rules {l : Launch} {D : va_G} {cA : Nat → ClassId} {z sz : Nat} {I : HI} {T : HR} {F : HR} {L : HL} {x1 : Int32} {b : Nat} {Q : Int32 → HI → HR → HR → HL → Prop} {Xc : HI → HR → HR → HL → Prop} (hlt : l.stackTraces = false) (hG : Geo F L) (h : H_rules I T F L x1 b Q Xc) : vx_Met l yX10_rules (hws0 yX10_rules cX10_rules 2 (some .int)) { frames := 131, cells := 86, slots := b + 6, locals := 3493 } (hPc D cA z EvC (I, J, T, F, L) sz [.ref (z + 0), .int x1]) (va_Qi (pB J Q) (hB D cA z (hA z L sz)) (hA z L sz)) (vx_X (pBv J Xc) (pX "java/lang/IllegalArgumentException" D cA z (hA z L sz)) (hA z L sz)) 86 (b + 6) (hA z L sz) := by
  refine hm_xmet (I, J, T, F, L) [.ref (z + 0), .int x1] rfl (by decide) (Nat.le_of_ble_eq_true rfl) ?_
  intro p e s m below meth c ls X hr hlk hnm hxt hsz hw hl
  have hl : lv_has ls 2 [(0, .ref (z + 0)), (1, .int x1)] := hl
  have hnm : meth.name = "rules" := hnm
  have hR : 131 ≤ ({ frames := 131, cells := 86, slots := b + 6, locals := 3493 } : Room).frames ∧ 3493 ≤ ({ frames := 131, cells := 86, slots := b + 6, locals := 3493 } : Room).locals := ⟨Nat.le_refl _, Nat.le_refl _⟩
  have hRc : 86 ≤ ({ frames := 131, cells := 86, slots := b + 6, locals := 3493 } : Room).cells ∧ b + 6 ≤ ({ frames := 131, cells := 86, slots := b + 6, locals := 3493 } : Room).slots := ⟨Nat.le_refl _, Nat.le_refl _⟩
  generalize ({ frames := 131, cells := 86, slots := b + 6, locals := 3493 } : Room) = R at hR hRc ⊢
  clear hsz
  generalize (hA z L sz) = A at hw ⊢
  have hx := X.1
  have hb := X.2.1
  unfold H_rules at h
  refine lv_iload_n hx hb dX10_rules_0 rfl (lv_at hl 1 rfl) ?_
  refine lv_if_lt (tgt := 12) hx hb dX10_rules_1 (by decide) (fun hc => ?_) (fun hc => ?_)
  · have h := Eq.mp (if_pos hc) h
    exact wkH_rules_b12 X hr hlk hnm hR hRc hlt hxt hG  h hw (lv_sub hl [] rfl)
  · have h := Eq.mp (if_neg hc) h
    refine lv_iload_n hx hb dX10_rules_4 rfl (lv_at hl 1 rfl) ?_
    refine lv_aload_n hx hb dX10_rules_5 rfl (lv_at hl 0 rfl) ?_
    refine hm_geti X hw lk_10_55 (gl_0 hG) dX10_rules_6 ?_
    refine lv_icmp_le (tgt := 22) hx hb dX10_rules_9 (by decide) (fun hc => ?_) (fun hc => ?_)
    · have h := Eq.mp (if_pos hc) h
      refine lv_aload_n hx hb dX10_rules_22 rfl (lv_at hl 0 rfl) ?_
      refine lv_iconst (v := 0) hx hb dX10_rules_23 (by decide) ?_
      refine hm_puti X hw lk_10_55 (gl_0 hG) rfl rfl dX10_rules_24 (fun H locs hw => ?_)
      refine lv_aload_n hx hb dX10_rules_27 rfl (lv_at hl 0 rfl) ?_
      refine hm_getr X hw lk_10_47 (gl_0 hG) (gf_0_6 hG) dX10_rules_28 ?_
      refine lv_aload_n hx hb dX10_rules_31 rfl (lv_at hl 0 rfl) ?_
      refine hm_getr X hw lk_10_51 (gl_0 hG) (gf_0_7 hG) dX10_rules_32 ?_
      refine lv_iload_n hx hb dX10_rules_35 rfl (lv_at hl 1 rfl) ?_
      refine lv_aload_n hx hb dX10_rules_36 rfl (lv_at hl 0 rfl) ?_
      refine hm_getr X hw lk_10_10 (gl_0 hG) (gf_0_0 hG) dX10_rules_37 ?_
      refine hm_geti X hw lk_10_150 (gl_1 hG) dX10_rules_40 ?_
      refine hm_callvA hw (hm_runV (rest := []) EvC_cl X hw (cRd_read hG h) yk_X6_read kw882 rfl (gl_28 hG) rfl hl.1 rfl rfl rfl (Nat.le_of_ble_eq_true rfl) ⟨Nat.le_trans (Nat.le_of_ble_eq_true rfl) hR.1, Nat.le_trans (Nat.le_of_ble_eq_true rfl) hR.2⟩ ⟨Nat.le_trans (Nat.le_of_ble_eq_true rfl) hRc.1, Nat.le_trans (Nat.le_trans (Nat.le_of_eq (Nat.zero_add _)) (Nat.le_add_right _ _)) hRc.2⟩ dX10_rules_43) (fun u5 H locs hp hw => ?_)
      obtain ⟨I1, T2, F3, L4, rfl, h⟩ := hp
      obtain ⟨hG, h⟩ := h
      refine lv_aload_n hx hb dX10_rules_46 rfl (lv_at hl 0 rfl) ?_
      refine hm_getr X hw lk_10_47 (gl_0 hG) (gf_0_6 hG) dX10_rules_47 ?_
      refine hm_geti X hw lk_10_157 (gl_28 hG) dX10_rules_50 ?_
      refine lv_if_ne (tgt := 77) hx hb dX10_rules_53 (by decide) (fun hc => ?_) (fun hc => ?_)
      · have h := Eq.mp (if_neg hc) h
        refine lv_aload_n hx hb dX10_rules_77 rfl (lv_at hl 0 rfl) ?_
        refine hm_getr X hw lk_10_47 (gl_0 hG) (gf_0_6 hG) dX10_rules_78 ?_
        refine hm_geti X hw lk_10_157 (gl_28 hG) dX10_rules_81 ?_
        refine vx_ret ?_
        refine W.widen (k := 86) (n := b + 6) (Nat.le_of_ble_eq_true rfl) (Nat.le_trans (Nat.le_of_eq (Nat.zero_add _)) (Nat.le_add_right _ _)) ?_
        exact hm_iret X hr hlk hw ⟨_, _, _, _, rfl, h⟩ dX10_rules_84
      · have h := Eq.mp (if_pos hc) h
        refine lv_aload_n hx hb dX10_rules_56 rfl (lv_at hl 0 rfl) ?_
        refine hm_getr X hw lk_10_10 (gl_0 hG) (gf_0_0 hG) dX10_rules_57 ?_
        refine lv_aload_n hx hb dX10_rules_60 rfl (lv_at hl 0 rfl) ?_
        refine hm_getr X hw lk_10_47 (gl_0 hG) (gf_0_6 hG) dX10_rules_61 ?_
        refine hm_getr X hw lk_10_160 (gl_28 hG) (gf_28_2 hG) dX10_rules_64 ?_
        refine hm_callv hw (hm_runV (rest := []) EvC_cl X hw (cNet_follow EvC_cl hG (geo_net hG) h) yk_X5_follow kw1029 rfl (gl_1 hG) rfl hl.1 rfl rfl rfl (Nat.le_of_ble_eq_true rfl) ⟨Nat.le_trans (Nat.le_of_ble_eq_true rfl) hR.1, Nat.le_trans (Nat.le_of_ble_eq_true rfl) hR.2⟩ ⟨Nat.le_trans (Nat.le_of_ble_eq_true rfl) hRc.1, Nat.le_trans (Nat.le_trans (Nat.le_of_eq (Nat.zero_add _)) (Nat.le_add_right _ _)) hRc.2⟩ dX10_rules_67) (fun u7 H locs hp hw => ?_)
        obtain ⟨T6, rfl, h⟩ := hp
        refine lv_aload_n hx hb dX10_rules_70 rfl (lv_at hl 0 rfl) ?_
        refine hm_getr X hw lk_10_40 (gl_0 hG) (gf_0_5 hG) dX10_rules_71 ?_
        refine hm_callv hw (hm_runV (rest := []) EvC_cl X hw (cLed_spoil EvC_cl hG h) yk_X3_spoil kw515 rfl (gl_26 hG) rfl hl.1 rfl rfl rfl (Nat.le_of_ble_eq_true rfl) ⟨Nat.le_trans (Nat.le_of_ble_eq_true rfl) hR.1, Nat.le_trans (Nat.le_of_ble_eq_true rfl) hR.2⟩ ⟨Nat.le_trans (Nat.le_of_ble_eq_true rfl) hRc.1, Nat.le_trans (Nat.le_trans (Nat.le_of_eq (Nat.zero_add _)) (Nat.le_add_right _ _)) hRc.2⟩ dX10_rules_74) (fun u9 H locs hp hw => ?_)
        obtain ⟨I8, rfl, h⟩ := hp
        refine lv_aload_n hx hb dX10_rules_77 rfl (lv_at hl 0 rfl) ?_
        refine hm_getr X hw lk_10_47 (gl_0 hG) (gf_0_6 hG) dX10_rules_78 ?_
        refine hm_geti X hw lk_10_157 (gl_28 hG) dX10_rules_81 ?_
        refine vx_ret ?_
        refine W.widen (k := 86) (n := b + 6) (Nat.le_of_ble_eq_true rfl) (Nat.le_trans (Nat.le_of_eq (Nat.zero_add _)) (Nat.le_add_right _ _)) ?_
        exact hm_iret X hr hlk hw ⟨_, _, _, _, rfl, h⟩ dX10_rules_84
    · have h := Eq.mp (if_neg hc) h
      exact wkH_rules_b12 X hr hlk hnm hR hRc hlt hxt hG  h hw (lv_sub hl [] rfl)

end
