theorem dX10_init_0 : decode cX10_init 0 = .ok (.aload_n 0, 1) := by decide +kernel
theorem dX10_init_1 : decode cX10_init 1 = .ok (.invokespecial 1, 3) := by decide +kernel
theorem dX10_init_4 : decode cX10_init 4 = .ok (.aload_n 0, 1) := by decide +kernel
theorem dX10_init_5 : decode cX10_init 5 = .ok (.new 7, 3) := by decide +kernel
theorem dX10_init_8 : decode cX10_init 8 = .ok (.dup, 1) := by decide +kernel
theorem dX10_init_9 : decode cX10_init 9 = .ok (.invokespecial 9, 3) := by decide +kernel
theorem dX10_init_12 : decode cX10_init 12 = .ok (.putfield 10, 3) := by decide +kernel
theorem dX10_init_15 : decode cX10_init 15 = .ok (.aload_n 0, 1) := by decide +kernel
theorem dX10_init_16 : decode cX10_init 16 = .ok (.new 7, 3) := by decide +kernel
theorem dX10_init_19 : decode cX10_init 19 = .ok (.dup, 1) := by decide +kernel
theorem dX10_init_20 : decode cX10_init 20 = .ok (.invokespecial 9, 3) := by decide +kernel
theorem dX10_init_23 : decode cX10_init 23 = .ok (.putfield 16, 3) := by decide +kernel
theorem dX10_init_26 : decode cX10_init 26 = .ok (.aload_n 0, 1) := by decide +kernel
theorem dX10_init_27 : decode cX10_init 27 = .ok (.iconst 4, 1) := by decide +kernel
theorem dX10_init_28 : decode cX10_init 28 = .ok (.anewarray 7, 3) := by decide +kernel
theorem dX10_init_31 : decode cX10_init 31 = .ok (.putfield 19, 3) := by decide +kernel
theorem dX10_init_34 : decode cX10_init 34 = .ok (.aload_n 0, 1) := by decide +kernel
theorem dX10_init_35 : decode cX10_init 35 = .ok (.new 23, 3) := by decide +kernel
theorem dX10_init_38 : decode cX10_init 38 = .ok (.dup, 1) := by decide +kernel
theorem dX10_init_39 : decode cX10_init 39 = .ok (.invokespecial 25, 3) := by decide +kernel
theorem dX10_init_42 : decode cX10_init 42 = .ok (.putfield 26, 3) := by decide +kernel
theorem dX10_init_45 : decode cX10_init 45 = .ok (.aload_n 0, 1) := by decide +kernel
theorem dX10_init_46 : decode cX10_init 46 = .ok (.new 30, 3) := by decide +kernel
theorem dX10_init_49 : decode cX10_init 49 = .ok (.dup, 1) := by decide +kernel
theorem dX10_init_50 : decode cX10_init 50 = .ok (.invokespecial 32, 3) := by decide +kernel
theorem dX10_init_53 : decode cX10_init 53 = .ok (.putfield 33, 3) := by decide +kernel
theorem dX10_init_56 : decode cX10_init 56 = .ok (.aload_n 0, 1) := by decide +kernel
theorem dX10_init_57 : decode cX10_init 57 = .ok (.new 37, 3) := by decide +kernel
theorem dX10_init_60 : decode cX10_init 60 = .ok (.dup, 1) := by decide +kernel
theorem dX10_init_61 : decode cX10_init 61 = .ok (.invokespecial 39, 3) := by decide +kernel
theorem dX10_init_64 : decode cX10_init 64 = .ok (.putfield 40, 3) := by decide +kernel
theorem dX10_init_67 : decode cX10_init 67 = .ok (.aload_n 0, 1) := by decide +kernel
theorem dX10_init_68 : decode cX10_init 68 = .ok (.new 44, 3) := by decide +kernel
theorem dX10_init_71 : decode cX10_init 71 = .ok (.dup, 1) := by decide +kernel
theorem dX10_init_72 : decode cX10_init 72 = .ok (.invokespecial 46, 3) := by decide +kernel
theorem dX10_init_75 : decode cX10_init 75 = .ok (.putfield 47, 3) := by decide +kernel
theorem dX10_init_78 : decode cX10_init 78 = .ok (.aload_n 0, 1) := by decide +kernel
theorem dX10_init_79 : decode cX10_init 79 = .ok (.sipush 500, 3) := by decide +kernel
theorem dX10_init_82 : decode cX10_init 82 = .ok (.newarray .int, 2) := by decide +kernel
theorem dX10_init_84 : decode cX10_init 84 = .ok (.putfield 51, 3) := by decide +kernel
theorem dX10_init_87 : decode cX10_init 87 = .ok (.aload_n 0, 1) := by decide +kernel
theorem dX10_init_88 : decode cX10_init 88 = .ok (.iconst 0, 1) := by decide +kernel
theorem dX10_init_89 : decode cX10_init 89 = .ok (.putfield 55, 3) := by decide +kernel
theorem dX10_init_92 : decode cX10_init 92 = .ok (.aload_n 0, 1) := by decide +kernel
theorem dX10_init_93 : decode cX10_init 93 = .ok (.new 59, 3) := by decide +kernel
theorem dX10_init_96 : decode cX10_init 96 = .ok (.dup, 1) := by decide +kernel
theorem dX10_init_97 : decode cX10_init 97 = .ok (.invokespecial 61, 3) := by decide +kernel
theorem dX10_init_100 : decode cX10_init 100 = .ok (.putfield 62, 3) := by decide +kernel
theorem dX10_init_103 : decode cX10_init 103 = .ok (.aload_n 0, 1) := by decide +kernel
theorem dX10_init_104 : decode cX10_init 104 = .ok (.new 66, 3) := by decide +kernel
theorem dX10_init_107 : decode cX10_init 107 = .ok (.dup, 1) := by decide +kernel
theorem dX10_init_108 : decode cX10_init 108 = .ok (.invokespecial 68, 3) := by decide +kernel
theorem dX10_init_111 : decode cX10_init 111 = .ok (.putfield 69, 3) := by decide +kernel
theorem dX10_init_114 : decode cX10_init 114 = .ok (.aload_n 0, 1) := by decide +kernel
theorem dX10_init_115 : decode cX10_init 115 = .ok (.new 73, 3) := by decide +kernel
theorem dX10_init_118 : decode cX10_init 118 = .ok (.dup, 1) := by decide +kernel
theorem dX10_init_119 : decode cX10_init 119 = .ok (.invokespecial 75, 3) := by decide +kernel
theorem dX10_init_122 : decode cX10_init 122 = .ok (.putfield 76, 3) := by decide +kernel
theorem dX10_init_125 : decode cX10_init 125 = .ok (.aload_n 0, 1) := by decide +kernel
theorem dX10_init_126 : decode cX10_init 126 = .ok (.new 80, 3) := by decide +kernel
theorem dX10_init_129 : decode cX10_init 129 = .ok (.dup, 1) := by decide +kernel
theorem dX10_init_130 : decode cX10_init 130 = .ok (.invokespecial 82, 3) := by decide +kernel
theorem dX10_init_133 : decode cX10_init 133 = .ok (.putfield 83, 3) := by decide +kernel
theorem dX10_init_136 : decode cX10_init 136 = .ok (.aload_n 0, 1) := by decide +kernel
theorem dX10_init_137 : decode cX10_init 137 = .ok (.invokestatic 87, 3) := by decide +kernel
theorem dX10_init_140 : decode cX10_init 140 = .ok (.putfield 93, 3) := by decide +kernel
theorem dX10_init_143 : decode cX10_init 143 = .ok (.aload_n 0, 1) := by decide +kernel
theorem dX10_init_144 : decode cX10_init 144 = .ok (.invokestatic 97, 3) := by decide +kernel
theorem dX10_init_147 : decode cX10_init 147 = .ok (.putfield 100, 3) := by decide +kernel
theorem dX10_init_150 : decode cX10_init 150 = .ok (.return_, 1) := by decide +kernel
section
variable {p : Program} {l : Launch} {e : Env} {R : Room} {s : State} {m : MethodId} {args : Array Value} {below : List Frame} {meth : Method} {c : Code} {D : va_G} {cA : Nat → ClassId} {z : Nat} {A : Nat → Prop} {J : HJ}
set_option maxHeartbeats 16000000 in
theorem cH_init {l : Launch} {D : va_G} {cA : Nat → ClassId} {z sz : Nat} {I : HI} {T : HR} {F : HR} {L : HL}  {Q : HI → HR → HR → HL → Prop} (hs0 : (0, 17, 0) ∈ L) (hsz0 : sz = z + 1) (h : H_init I T F L  Q) : Met l yX10_init (hws0 yX10_init cX10_init 1 none) { frames := 6, cells := 65, slots := 45052, locals := 146 } (hPc D cA z EvC (I, J, T, F, L) sz [.ref (z + 0)]) (va_Qv (pBv J Q) (hB D cA z (hA z L sz)) (hA z L sz)) 65 45052 (hA z L sz) := by
  refine hm_met (I, J, T, F, L) [.ref (z + 0)] rfl (by decide) (Nat.le_of_ble_eq_true rfl) ?_
  intro p e s m below meth c ls X hr hlk hnm hxt hsz hw hl
  have hl : lv_has ls 1 [(0, .ref (z + 0))] := hl
  have hnm : meth.name = "<init>" := hnm
  have hR : 6 ≤ ({ frames := 6, cells := 65, slots := 45052, locals := 146 } : Room).frames ∧ 146 ≤ ({ frames := 6, cells := 65, slots := 45052, locals := 146 } : Room).locals := ⟨Nat.le_refl _, Nat.le_refl _⟩
  have hRc : 65 ≤ ({ frames := 6, cells := 65, slots := 45052, locals := 146 } : Room).cells ∧ 45052 ≤ ({ frames := 6, cells := 65, slots := 45052, locals := 146 } : Room).slots := ⟨Nat.le_refl _, Nat.le_refl _⟩
  generalize ({ frames := 6, cells := 65, slots := 45052, locals := 146 } : Room) = R at hR hRc ⊢
  have hsz1 : s.heap.size = z + (0 + 1) := hsz.trans hsz0
  clear hsz hsz0
  generalize (hA z L sz) = A at hw ⊢
  have hx := X.1
  have hb := X.2.1
  unfold H_init at h
  refine lv_aload_n hx hb dX10_init_0 rfl (lv_at hl 0 rfl) ?_
  refine hm_obj X kw131 hl.1 ⟨Nat.le_trans (Nat.le_of_ble_eq_true rfl) hR.1, Nat.le_trans (Nat.le_of_ble_eq_true rfl) hR.2⟩ dX10_init_1 ?_
  refine lv_aload_n hx hb dX10_init_4 rfl (lv_at hl 0 rfl) ?_
  refine hm_szK (n0 := 0 + 1) (N := 0) (q := 1) (hW_lt hw _ hs0) hsz1 rfl rfl (fun ehq1 => ?_)
  refine hm_newC X hw hn_10_7 ehq1 (Nat.le_trans (Nat.le_of_ble_eq_true rfl) hRc.1) (Nat.le_trans (Nat.le_of_ble_eq_true rfl) hRc.2) dX10_init_5 (fun H hsz hw => ?_)
  have hs0 := List.mem_append_left [(1, 12, 0)] hs0
  have ehs2 := mem_last L ((1, 12, 0))
  refine lv_dup hx hb dX10_init_8 rfl ?_
  refine hm_callvA hw (hm_runI (rest := [_, _]) EvC_cl X hw (cNet_init ehs2 hsz h) yi_X5_init kw136 rfl hl.1 rfl rfl rfl (Nat.le_of_ble_eq_true rfl) ⟨Nat.le_trans (Nat.le_of_ble_eq_true rfl) hR.1, Nat.le_trans (Nat.le_of_ble_eq_true rfl) hR.2⟩ ⟨Nat.le_trans (Nat.le_of_ble_eq_true rfl) hRc.1, Nat.le_trans (Nat.le_of_ble_eq_true rfl) hRc.2⟩ dX10_init_9) (fun u7 H locs hp hw => ?_)
  obtain ⟨I3, T4, F5, L6, rfl, h⟩ := hp
  obtain ⟨hs0, ehs2, ehs8, h⟩ := h
  refine hm_putr X hw lk_10_10 (fun _ => ⟨hnm, TX10, 15, rfl, rfl⟩) hs0 rfl rfl dX10_init_12 (fun H locs hw => ?_)
  refine lv_aload_n hx hb dX10_init_15 rfl (lv_at hl 0 rfl) ?_
  refine hm_szK (n0 := 0 + 1) (N := 9) (q := 10) (hW_lt hw _ ehs8) hsz1 rfl rfl (fun ehq9 => ?_)
  refine hm_newC X hw hn_10_7 ehq9 (Nat.le_trans (Nat.le_of_ble_eq_true rfl) hRc.1) (Nat.le_trans (Nat.le_of_ble_eq_true rfl) hRc.2) dX10_init_16 (fun H hsz hw => ?_)
  have hs0 := List.mem_append_left [(10, 12, 0)] hs0
  have ehs2 := List.mem_append_left [(10, 12, 0)] ehs2
  have ehs8 := List.mem_append_left [(10, 12, 0)] ehs8
  have ehs10 := mem_last L6 ((10, 12, 0))
  refine lv_dup hx hb dX10_init_19 rfl ?_
  refine hm_callvA hw (hm_runI (rest := [_, _]) EvC_cl X hw (cNet_init ehs10 hsz h) yi_X5_init kw136 rfl hl.1 rfl rfl rfl (Nat.le_of_ble_eq_true rfl) ⟨Nat.le_trans (Nat.le_of_ble_eq_true rfl) hR.1, Nat.le_trans (Nat.le_of_ble_eq_true rfl) hR.2⟩ ⟨Nat.le_trans (Nat.le_of_ble_eq_true rfl) hRc.1, Nat.le_trans (Nat.le_of_ble_eq_true rfl) hRc.2⟩ dX10_init_20) (fun u15 H locs hp hw => ?_)
  obtain ⟨I11, T12, F13, L14, rfl, h⟩ := hp
  obtain ⟨hs0, ehs10, ehs16, h⟩ := h
  refine hm_putr X hw lk_10_16 (fun _ => ⟨hnm, TX10, 15, rfl, rfl⟩) hs0 rfl rfl dX10_init_23 (fun H locs hw => ?_)
  refine lv_aload_n hx hb dX10_init_26 rfl (lv_at hl 0 rfl) ?_
  refine lv_iconst (v := 4) hx hb dX10_init_27 (by decide) ?_
  refine hm_szK (n0 := 0 + 1) (N := 18) (q := 19) (hW_lt hw _ ehs16) hsz1 rfl rfl (fun ehq17 => ?_)
  refine hm_newq6 (N := 4) X hw kw134 hw.2.2.2.2.2.2.2.1 ehq17 (by decide) (by decide) (by decide) (Nat.le_trans (Nat.le_of_ble_eq_true rfl) hRc.1) (Nat.le_trans (Nat.le_of_ble_eq_true rfl) hRc.2) dX10_init_28 (fun H hsz hw => ?_)
  have hs0 := List.mem_append_left [(19, 6, 4)] hs0
  have ehs10 := List.mem_append_left [(19, 6, 4)] ehs10
  have ehs16 := List.mem_append_left [(19, 6, 4)] ehs16
  have ehs18 := mem_last L14 ((19, 6, 4))
  refine hm_putr X hw lk_10_19 (fun _ => ⟨hnm, TX10, 15, rfl, rfl⟩) hs0 rfl rfl dX10_init_31 (fun H locs hw => ?_)
  refine lv_aload_n hx hb dX10_init_34 rfl (lv_at hl 0 rfl) ?_
  refine hm_szK (n0 := 0 + 1) (N := 19) (q := 20) (hW_lt hw _ ehs18) hsz1 rfl rfl (fun ehq19 => ?_)
  refine hm_newC X hw hn_10_23 ehq19 (Nat.le_trans (Nat.le_of_ble_eq_true rfl) hRc.1) (Nat.le_trans (Nat.le_of_ble_eq_true rfl) hRc.2) dX10_init_35 (fun H hsz hw => ?_)
  have hs0 := List.mem_append_left [(20, 14, 0)] hs0
  have ehs10 := List.mem_append_left [(20, 14, 0)] ehs10
  have ehs16 := List.mem_append_left [(20, 14, 0)] ehs16
  have ehs18 := List.mem_append_left [(20, 14, 0)] ehs18
  have ehs20 := mem_last (L14 ++ [(19, 6, 4)]) ((20, 14, 0))
  refine lv_dup hx hb dX10_init_38 rfl ?_
  refine hm_callvA hw (hm_runIN (rest := [_, _]) EvC_cl X hw (cSc_init ehs20 hsz h) yi_X7_init (hw.2.2.2.2.2.1 _ ng_10_25) rfl hl.1 rfl rfl rfl (Nat.le_of_ble_eq_true rfl) ⟨Nat.le_trans (Nat.le_of_ble_eq_true rfl) hR.1, Nat.le_trans (Nat.le_of_ble_eq_true rfl) hR.2⟩ ⟨Nat.le_trans (Nat.le_of_ble_eq_true rfl) hRc.1, Nat.le_trans (Nat.le_of_ble_eq_true rfl) hRc.2⟩ dX10_init_39) (fun u25 H locs hp hw => ?_)
  obtain ⟨I21, T22, F23, L24, rfl, h⟩ := hp
  obtain ⟨hs0, ehs20, ehs26, h⟩ := h
  refine hm_putr X hw lk_10_26 (fun _ => ⟨hnm, TX10, 15, rfl, rfl⟩) hs0 rfl rfl dX10_init_42 (fun H locs hw => ?_)
  refine lv_aload_n hx hb dX10_init_45 rfl (lv_at hl 0 rfl) ?_
  refine hm_szK (n0 := 0 + 1) (N := 22) (q := 23) (hW_lt hw _ ehs26) hsz1 rfl rfl (fun ehq27 => ?_)
  refine hm_newC X hw hn_10_30 ehq27 (Nat.le_trans (Nat.le_of_ble_eq_true rfl) hRc.1) (Nat.le_trans (Nat.le_of_ble_eq_true rfl) hRc.2) dX10_init_46 (fun H hsz hw => ?_)
  have hs0 := List.mem_append_left [(23, 9, 0)] hs0
  have ehs20 := List.mem_append_left [(23, 9, 0)] ehs20
  have ehs26 := List.mem_append_left [(23, 9, 0)] ehs26
  have ehs28 := mem_last L24 ((23, 9, 0))
  refine lv_dup hx hb dX10_init_49 rfl ?_
  refine hm_callvA hw (hm_runIN (rest := [_, _]) EvC_cl X hw (cJud_init ehs28 hsz h) yi_X2_init (hw.2.2.2.2.2.1 _ ng_10_32) rfl hl.1 rfl rfl rfl (Nat.le_of_ble_eq_true rfl) ⟨Nat.le_trans (Nat.le_of_ble_eq_true rfl) hR.1, Nat.le_trans (Nat.le_of_ble_eq_true rfl) hR.2⟩ ⟨Nat.le_trans (Nat.le_of_ble_eq_true rfl) hRc.1, Nat.le_trans (Nat.le_of_ble_eq_true rfl) hRc.2⟩ dX10_init_50) (fun u33 H locs hp hw => ?_)
  obtain ⟨I29, T30, F31, L32, rfl, h⟩ := hp
  obtain ⟨hs0, ehs28, ehs34, h⟩ := h
  refine hm_putr X hw lk_10_33 (fun _ => ⟨hnm, TX10, 15, rfl, rfl⟩) hs0 rfl rfl dX10_init_53 (fun H locs hw => ?_)
  refine lv_aload_n hx hb dX10_init_56 rfl (lv_at hl 0 rfl) ?_
  refine hm_szK (n0 := 0 + 1) (N := 25) (q := 26) (hW_lt hw _ ehs34) hsz1 rfl rfl (fun ehq35 => ?_)
  refine hm_newC X hw hn_10_37 ehq35 (Nat.le_trans (Nat.le_of_ble_eq_true rfl) hRc.1) (Nat.le_trans (Nat.le_of_ble_eq_true rfl) hRc.2) dX10_init_57 (fun H hsz hw => ?_)
  have hs0 := List.mem_append_left [(26, 10, 0)] hs0
  have ehs28 := List.mem_append_left [(26, 10, 0)] ehs28
  have ehs34 := List.mem_append_left [(26, 10, 0)] ehs34
  have ehs36 := mem_last L32 ((26, 10, 0))
  refine lv_dup hx hb dX10_init_60 rfl ?_
  refine hm_callvA hw (hm_runIN (rest := [_, _]) EvC_cl X hw (cLed_init ehs36 hsz h) yi_X3_init (hw.2.2.2.2.2.1 _ ng_10_39) rfl hl.1 rfl rfl rfl (Nat.le_of_ble_eq_true rfl) ⟨Nat.le_trans (Nat.le_of_ble_eq_true rfl) hR.1, Nat.le_trans (Nat.le_of_ble_eq_true rfl) hR.2⟩ ⟨Nat.le_trans (Nat.le_of_ble_eq_true rfl) hRc.1, Nat.le_trans (Nat.le_of_ble_eq_true rfl) hRc.2⟩ dX10_init_61) (fun u41 H locs hp hw => ?_)
  obtain ⟨I37, T38, F39, L40, rfl, h⟩ := hp
  obtain ⟨hs0, ehs36, ehs42, h⟩ := h
  refine hm_putr X hw lk_10_40 (fun _ => ⟨hnm, TX10, 15, rfl, rfl⟩) hs0 rfl rfl dX10_init_64 (fun H locs hw => ?_)
  refine lv_aload_n hx hb dX10_init_67 rfl (lv_at hl 0 rfl) ?_
  refine hm_szK (n0 := 0 + 1) (N := 27) (q := 28) (hW_lt hw _ ehs42) hsz1 rfl rfl (fun ehq43 => ?_)
  refine hm_newC X hw hn_10_44 ehq43 (Nat.le_trans (Nat.le_of_ble_eq_true rfl) hRc.1) (Nat.le_trans (Nat.le_of_ble_eq_true rfl) hRc.2) dX10_init_68 (fun H hsz hw => ?_)
  have hs0 := List.mem_append_left [(28, 13, 0)] hs0
  have ehs36 := List.mem_append_left [(28, 13, 0)] ehs36
  have ehs42 := List.mem_append_left [(28, 13, 0)] ehs42
  have ehs44 := mem_last L40 ((28, 13, 0))
  refine lv_dup hx hb dX10_init_71 rfl ?_
  refine hm_callvA hw (hm_runIN (rest := [_, _]) EvC_cl X hw (cRd_init ehs44 hsz h) yi_X6_init (hw.2.2.2.2.2.1 _ ng_10_46) rfl hl.1 rfl rfl rfl (Nat.le_of_ble_eq_true rfl) ⟨Nat.le_trans (Nat.le_of_ble_eq_true rfl) hR.1, Nat.le_trans (Nat.le_of_ble_eq_true rfl) hR.2⟩ ⟨Nat.le_trans (Nat.le_of_ble_eq_true rfl) hRc.1, Nat.le_trans (Nat.le_of_ble_eq_true rfl) hRc.2⟩ dX10_init_72) (fun u49 H locs hp hw => ?_)
  obtain ⟨I45, T46, F47, L48, rfl, h⟩ := hp
  obtain ⟨hs0, ehs44, ehs50, h⟩ := h
  refine hm_putr X hw lk_10_47 (fun _ => ⟨hnm, TX10, 15, rfl, rfl⟩) hs0 rfl rfl dX10_init_75 (fun H locs hw => ?_)
  refine lv_aload_n hx hb dX10_init_78 rfl (lv_at hl 0 rfl) ?_
  refine lv_sipush (v := 500) hx hb dX10_init_79 (by decide) ?_
  refine hm_szK (n0 := 0 + 1) (N := 33) (q := 34) (hW_lt hw _ ehs50) hsz1 rfl rfl (fun ehq51 => ?_)
  refine hm_newa0 (N := 500) X hw ehq51 (by decide) (by decide) (by decide) (Nat.le_trans (Nat.le_of_ble_eq_true rfl) hRc.1) (Nat.le_trans (Nat.le_of_ble_eq_true rfl) hRc.2) dX10_init_82 (fun H hsz hw => ?_)
  have hs0 := List.mem_append_left [(34, 0, 500)] hs0
  have ehs44 := List.mem_append_left [(34, 0, 500)] ehs44
  have ehs50 := List.mem_append_left [(34, 0, 500)] ehs50
  have ehs52 := mem_last L48 ((34, 0, 500))
  refine hm_putr X hw lk_10_51 (fun _ => ⟨hnm, TX10, 15, rfl, rfl⟩) hs0 rfl rfl dX10_init_84 (fun H locs hw => ?_)
  refine lv_aload_n hx hb dX10_init_87 rfl (lv_at hl 0 rfl) ?_
  refine lv_iconst (v := 0) hx hb dX10_init_88 (by decide) ?_
  refine hm_puti X hw lk_10_55 hs0 rfl rfl dX10_init_89 (fun H locs hw => ?_)
  refine lv_aload_n hx hb dX10_init_92 rfl (lv_at hl 0 rfl) ?_
  refine hm_szK (n0 := 0 + 1) (N := 34) (q := 35) (hW_lt hw _ ehs52) hsz1 rfl rfl (fun ehq53 => ?_)
  refine hm_newC X hw hn_10_59 ehq53 (Nat.le_trans (Nat.le_of_ble_eq_true rfl) hRc.1) (Nat.le_trans (Nat.le_of_ble_eq_true rfl) hRc.2) dX10_init_93 (fun H hsz hw => ?_)
  have hs0 := List.mem_append_left [(35, 15, 0)] hs0
  have ehs44 := List.mem_append_left [(35, 15, 0)] ehs44
  have ehs50 := List.mem_append_left [(35, 15, 0)] ehs50
  have ehs52 := List.mem_append_left [(35, 15, 0)] ehs52
  have ehs54 := mem_last (L48 ++ [(34, 0, 500)]) ((35, 15, 0))
  refine lv_dup hx hb dX10_init_96 rfl ?_
  refine hm_callvA hw (hm_runIN (rest := [_, _]) EvC_cl X hw (cSe_init ehs54 hsz h) yi_X8_init (hw.2.2.2.2.2.1 _ ng_10_61) rfl hl.1 rfl rfl rfl (Nat.le_of_ble_eq_true rfl) ⟨Nat.le_trans (Nat.le_of_ble_eq_true rfl) hR.1, Nat.le_trans (Nat.le_of_ble_eq_true rfl) hR.2⟩ ⟨Nat.le_trans (Nat.le_of_ble_eq_true rfl) hRc.1, Nat.le_trans (Nat.le_of_ble_eq_true rfl) hRc.2⟩ dX10_init_97) (fun u59 H locs hp hw => ?_)
  obtain ⟨I55, T56, F57, L58, rfl, h⟩ := hp
  obtain ⟨hs0, ehs54, ehs60, h⟩ := h
  refine hm_putr X hw lk_10_62 (fun _ => ⟨hnm, TX10, 15, rfl, rfl⟩) hs0 rfl rfl dX10_init_100 (fun H locs hw => ?_)
  refine lv_aload_n hx hb dX10_init_103 rfl (lv_at hl 0 rfl) ?_
  refine hm_szK (n0 := 0 + 1) (N := 38) (q := 39) (hW_lt hw _ ehs60) hsz1 rfl rfl (fun ehq61 => ?_)
  refine hm_newC X hw hn_10_66 ehq61 (Nat.le_trans (Nat.le_of_ble_eq_true rfl) hRc.1) (Nat.le_trans (Nat.le_of_ble_eq_true rfl) hRc.2) dX10_init_104 (fun H hsz hw => ?_)
  have hs0 := List.mem_append_left [(39, 16, 0)] hs0
  have ehs54 := List.mem_append_left [(39, 16, 0)] ehs54
  have ehs60 := List.mem_append_left [(39, 16, 0)] ehs60
  have ehs62 := mem_last L58 ((39, 16, 0))
  refine lv_dup hx hb dX10_init_107 rfl ?_
  refine hm_callvA hw (hm_runIN (rest := [_, _]) EvC_cl X hw (cSu_init ehs62 hsz h) yi_X9_init (hw.2.2.2.2.2.1 _ ng_10_68) rfl hl.1 rfl rfl rfl (Nat.le_of_ble_eq_true rfl) ⟨Nat.le_trans (Nat.le_of_ble_eq_true rfl) hR.1, Nat.le_trans (Nat.le_of_ble_eq_true rfl) hR.2⟩ ⟨Nat.le_trans (Nat.le_of_ble_eq_true rfl) hRc.1, Nat.le_trans (Nat.le_of_ble_eq_true rfl) hRc.2⟩ dX10_init_108) (fun u67 H locs hp hw => ?_)
  obtain ⟨I63, T64, F65, L66, rfl, h⟩ := hp
  obtain ⟨hs0, ehs62, ehs68, h⟩ := h
  refine hm_putr X hw lk_10_69 (fun _ => ⟨hnm, TX10, 15, rfl, rfl⟩) hs0 rfl rfl dX10_init_111 (fun H locs hw => ?_)
  refine lv_aload_n hx hb dX10_init_114 rfl (lv_at hl 0 rfl) ?_
  refine hm_szK (n0 := 0 + 1) (N := 43) (q := 44) (hW_lt hw _ ehs68) hsz1 rfl rfl (fun ehq69 => ?_)
  refine hm_newC X hw hn_10_73 ehq69 (Nat.le_trans (Nat.le_of_ble_eq_true rfl) hRc.1) (Nat.le_trans (Nat.le_of_ble_eq_true rfl) hRc.2) dX10_init_115 (fun H hsz hw => ?_)
  have hs0 := List.mem_append_left [(44, 7, 0)] hs0
  have ehs62 := List.mem_append_left [(44, 7, 0)] ehs62
  have ehs68 := List.mem_append_left [(44, 7, 0)] ehs68
  have ehs70 := mem_last L66 ((44, 7, 0))
  refine lv_dup hx hb dX10_init_118 rfl ?_
  refine hm_callvA hw (hm_runIN (rest := [_, _]) EvC_cl X hw (cCov_init ehs70 hsz h) yi_X0_init (hw.2.2.2.2.2.1 _ ng_10_75) rfl hl.1 rfl rfl rfl (Nat.le_of_ble_eq_true rfl) ⟨Nat.le_trans (Nat.le_of_ble_eq_true rfl) hR.1, Nat.le_trans (Nat.le_of_ble_eq_true rfl) hR.2⟩ ⟨Nat.le_trans (Nat.le_of_ble_eq_true rfl) hRc.1, Nat.le_trans (Nat.le_of_ble_eq_true rfl) hRc.2⟩ dX10_init_119) (fun u75 H locs hp hw => ?_)
  obtain ⟨I71, T72, F73, L74, rfl, h⟩ := hp
  obtain ⟨hs0, ehs70, ehs76, h⟩ := h
  refine hm_putr X hw lk_10_76 (fun _ => ⟨hnm, TX10, 15, rfl, rfl⟩) hs0 rfl rfl dX10_init_122 (fun H locs hw => ?_)
  refine lv_aload_n hx hb dX10_init_125 rfl (lv_at hl 0 rfl) ?_
  refine hm_szK (n0 := 0 + 1) (N := 47) (q := 48) (hW_lt hw _ ehs76) hsz1 rfl rfl (fun ehq77 => ?_)
  refine hm_newC X hw hn_10_80 ehq77 (Nat.le_trans (Nat.le_of_ble_eq_true rfl) hRc.1) (Nat.le_trans (Nat.le_of_ble_eq_true rfl) hRc.2) dX10_init_126 (fun H hsz hw => ?_)
  have hs0 := List.mem_append_left [(48, 11, 0)] hs0
  have ehs70 := List.mem_append_left [(48, 11, 0)] ehs70
  have ehs76 := List.mem_append_left [(48, 11, 0)] ehs76
  have ehs78 := mem_last L74 ((48, 11, 0))
  refine lv_dup hx hb dX10_init_129 rfl ?_
  refine hm_callvA hw (hm_runIN (rest := [_, _]) EvC_cl X hw (cMen_init ehs78 hsz h) yi_X4_init (hw.2.2.2.2.2.1 _ ng_10_82) rfl hl.1 rfl rfl rfl (Nat.le_of_ble_eq_true rfl) ⟨Nat.le_trans (Nat.le_of_ble_eq_true rfl) hR.1, Nat.le_trans (Nat.le_of_ble_eq_true rfl) hR.2⟩ ⟨Nat.le_trans (Nat.le_of_ble_eq_true rfl) hRc.1, Nat.le_trans (Nat.le_of_ble_eq_true rfl) hRc.2⟩ dX10_init_130) (fun u83 H locs hp hw => ?_)
  obtain ⟨I79, T80, F81, L82, rfl, h⟩ := hp
  obtain ⟨hs0, ehs78, ehs84, h⟩ := h
  refine hm_putr X hw lk_10_83 (fun _ => ⟨hnm, TX10, 15, rfl, rfl⟩) hs0 rfl rfl dX10_init_133 (fun H locs hw => ?_)
  refine lv_aload_n hx hb dX10_init_136 rfl (lv_at hl 0 rfl) ?_
  obtain ⟨hG, h⟩ := h
  refine hm_callrA hw (hm_runS (rest := [_]) EvC_cl X hw (cFrm_ofFirstInLine hG h) yk_X1_ofFirstInLine kw433 rfl hl.1 rfl rfl rfl (Nat.le_of_ble_eq_true rfl) ⟨Nat.le_trans (Nat.le_of_ble_eq_true rfl) hR.1, Nat.le_trans (Nat.le_of_ble_eq_true rfl) hR.2⟩ ⟨Nat.le_trans (Nat.le_of_ble_eq_true rfl) hRc.1, Nat.le_trans (Nat.le_of_ble_eq_true rfl) hRc.2⟩ dX10_init_137) (fun eq85 u90 H locs hp hw => ?_)
  obtain ⟨I86, T87, F88, L89, rfl, h⟩ := hp
  obtain ⟨hG, hs0, ehs91, h⟩ := h
  refine hm_putr X hw lk_10_93 (fun _ => ⟨hnm, TX10, 15, rfl, rfl⟩) hs0 rfl rfl dX10_init_140 (fun H locs hw => ?_)
  obtain ⟨hG, h⟩ := h
  refine lv_aload_n hx hb dX10_init_143 rfl (lv_at hl 0 rfl) ?_
  refine hm_callrA hw (hm_runS (rest := [_]) EvC_cl X hw (cFrm_ofNextInLine hG h) yk_X1_ofNextInLine kw458 rfl hl.1 rfl rfl rfl (Nat.le_of_ble_eq_true rfl) ⟨Nat.le_trans (Nat.le_of_ble_eq_true rfl) hR.1, Nat.le_trans (Nat.le_of_ble_eq_true rfl) hR.2⟩ ⟨Nat.le_trans (Nat.le_of_ble_eq_true rfl) hRc.1, Nat.le_trans (Nat.le_of_ble_eq_true rfl) hRc.2⟩ dX10_init_144) (fun eq92 u97 H locs hp hw => ?_)
  obtain ⟨I93, T94, F95, L96, rfl, h⟩ := hp
  obtain ⟨hG, hs0, ehs98, h⟩ := h
  refine hm_putr X hw lk_10_100 (fun _ => ⟨hnm, TX10, 15, rfl, rfl⟩) hs0 rfl rfl dX10_init_147 (fun H locs hw => ?_)
  obtain ⟨hG, h⟩ := h
  exact hm_vret X hr hlk hw ⟨_, _, _, _, rfl, h⟩ dX10_init_150

end
