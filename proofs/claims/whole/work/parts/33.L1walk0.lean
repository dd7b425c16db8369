theorem wl_hall {p : Program} {l : Launch} {e : Env} {s : State} {m : MethodId} {below : List Frame} {meth : Method} {c : Code} {H : Heap} {locs : List Loc} {cl sl : Nat} {Qz : State → Prop} {ls : Array Slot} {D : va_G} {cA : Nat → ClassId} {zC zM ro b Ln : Nat} {xs : Nat → Int32} {i : Int32} {I : HI} {J : HJ} {T F TM : HR} {L : HL} {IM : HI} {JM : HJ} {A : Nat → Prop} {K : HS → HI → HJ → Prop} (hx : p.tables.exec = Jvm.exec) (hb : c.code = code) (X : hX p m c s #[Value.ref b] R_law code 8) (hlt : l.stackTraces = false) (hX : va_X b Ln xs s s.heap) (hbl : b < s.heap.size) (hbA : ¬ A b) (hin : ∀ j : Int32, j < 6 → ¬ j < 0 → vp_in (i + j) Ln) (hG : Geo F L) (ho : (ro, 4, 1) ∈ L) (hc1 : cl + 90 ≤ room_1.cells) (hs1 : sl + 9000 ≤ room_1.slots) (hK : ∀ (SC : HS) (IM : HI) (JM : HJ) {ls : Array Slot} {H : Heap} {locs : List Loc}, K SC IM JM → hW2 D cA zC zM SC (IM, JM, TM, FM, LM) A s H locs → lv_has ls 8 [(0, .ref b), (1, .ref (zC + 0)), (2, .ref (zM + 0)), (3, .ref (zC + ro)), (4, .int i)] → W p l e room_1 s m #[Value.ref b] below meth c H locs (cl + 90) (sl + 9000) Qz (F0 m 1771 ls [])) (hw : hW2 D cA zC zM (I, J, T, F, L) (IM, JM, TM, FM, LM) A s H locs) (hl : lv_has ls 8 [(0, .ref b), (1, .ref (zC + 0)), (2, .ref (zM + 0)), (3, .ref (zC + ro)), (4, .int i)]) (h : St_hall (xs (nx (i + 1))) (xs (nx (i + 2))) I J T F L ro IM JM K) : W p l e room_1 s m #[Value.ref b] below meth c H locs cl sl Qz (F0 m 192 ls []) := by
  unfold St_hall at h
  refine lv_aload_n hx hb dl_192 rfl (lv_at hl 1 rfl) ?_
  refine lv_aload_n hx hb dl_193 rfl (lv_at hl 0 rfl) ?_
  refine lv_iload hx hb dl_194 (lv_at hl 4 rfl) ?_
  refine lv_iconst (v := 1) hx hb dl_196 (by decide) ?_
  refine lv_iadd hx hb dl_197 ?_
  refine va_sld hx hb hX hbl hbA hw.1.2.2.2.1 (hin 1 (by decide) (by decide)) dl_198 ?_
  refine lv_aload_n hx hb dl_199 rfl (lv_at hl 0 rfl) ?_
  refine lv_iload hx hb dl_200 (lv_at hl 4 rfl) ?_
  refine lv_iconst (v := 2) hx hb dl_202 (by decide) ?_
  refine lv_iadd hx hb dl_203 ?_
  refine va_sld hx hb hX hbl hbA hw.1.2.2.2.1 (hin 2 (by decide) (by decide)) dl_204 ?_
  refine hl_calliC hw (hm_runV (rest := []) EvC_cl X hw.1 (cH_hall EvC_cl hG h) yk_X10_hall kw507 rfl (gl_0 hG) rfl hl.1 rfl rfl rfl (Nat.le_of_ble_eq_true rfl) ⟨by decide, by decide⟩ ⟨by omega, by omega⟩ dl_205) (fun ra u H locs hp hw => ?_)
  obtain ⟨I2, T2, rfl, h⟩ := hp
  refine lv_aload_n hx hb dl_208 rfl (lv_at hl 2 rfl) ?_
  refine lv_aload_n hx hb dl_209 rfl (lv_at hl 0 rfl) ?_
  refine lv_iload hx hb dl_210 (lv_at hl 4 rfl) ?_
  refine lv_iconst (v := 1) hx hb dl_212 (by decide) ?_
  refine lv_iadd hx hb dl_213 ?_
  refine va_sld hx hb hX hbl hbA hw.1.2.2.2.1 (hin 1 (by decide) (by decide)) dl_214 ?_
  refine lv_aload_n hx hb dl_215 rfl (lv_at hl 0 rfl) ?_
  refine lv_iload hx hb dl_216 (lv_at hl 4 rfl) ?_
  refine lv_iconst (v := 2) hx hb dl_218 (by decide) ?_
  refine lv_iadd hx hb dl_219 ?_
  refine va_sld hx hb hX hbl hbA hw.1.2.2.2.1 (hin 2 (by decide) (by decide)) dl_220 ?_
  refine hl_calliM hw (hm_runV (rest := [_]) hCl_true X hw.2.1 (cM_hall h) ykM_hall kw1579 rfl LM_0 rfl hl.1 rfl rfl rfl (Nat.le_of_ble_eq_true rfl) ⟨by decide, by decide⟩ ⟨by omega, by omega⟩ dl_221) (fun rb u H locs hp hw => ?_)
  obtain ⟨IM2, rfl, h⟩ := hp
  refine lv_icmp_eq (tgt := 1771) hx hb dl_224 (by decide) (fun hc => ?_) (fun hc => ?_)
  · have h := h.2
    refine W.widen (k := cl + 90) (n := sl + 9000) (by omega) (by omega) ?_
    exact hK _ _ _ h hw (lv_sub hl [0, 1, 2, 3, 4] rfl)
  · exact absurd h.1 hc
theorem wl_looks {p : Program} {l : Launch} {e : Env} {s : State} {m : MethodId} {below : List Frame} {meth : Method} {c : Code} {H : Heap} {locs : List Loc} {cl sl : Nat} {Qz : State → Prop} {ls : Array Slot} {D : va_G} {cA : Nat → ClassId} {zC zM ro b Ln : Nat} {xs : Nat → Int32} {i : Int32} {I : HI} {J : HJ} {T F TM : HR} {L : HL} {IM : HI} {JM : HJ} {A : Nat → Prop} {K : HS → HI → HJ → Prop} (hx : p.tables.exec = Jvm.exec) (hb : c.code = code) (X : hX p m c s #[Value.ref b] R_law code 8) (hlt : l.stackTraces = false) (hX : va_X b Ln xs s s.heap) (hbl : b < s.heap.size) (hbA : ¬ A b) (hin : ∀ j : Int32, j < 6 → ¬ j < 0 → vp_in (i + j) Ln) (hG : Geo F L) (ho : (ro, 4, 1) ∈ L) (hc1 : cl + 90 ≤ room_1.cells) (hs1 : sl + 9000 ≤ room_1.slots) (hK : ∀ (SC : HS) (IM : HI) (JM : HJ) {ls : Array Slot} {H : Heap} {locs : List Loc}, K SC IM JM → hW2 D cA zC zM SC (IM, JM, TM, FM, LM) A s H locs → lv_has ls 8 [(0, .ref b), (1, .ref (zC + 0)), (2, .ref (zM + 0)), (3, .ref (zC + ro)), (4, .int i)] → W p l e room_1 s m #[Value.ref b] below meth c H locs (cl + 90) (sl + 9000) Qz (F0 m 1771 ls [])) (hw : hW2 D cA zC zM (I, J, T, F, L) (IM, JM, TM, FM, LM) A s H locs) (hl : lv_has ls 8 [(0, .ref b), (1, .ref (zC + 0)), (2, .ref (zM + 0)), (3, .ref (zC + ro)), (4, .int i)]) (h : St_looks (xs (nx (i + 1))) (xs (nx (i + 2))) I J T F L ro IM JM K) : W p l e room_1 s m #[Value.ref b] below meth c H locs cl sl Qz (F0 m 229 ls []) := by
  unfold St_looks at h
  refine lv_aload_n hx hb dl_229 rfl (lv_at hl 1 rfl) ?_
  refine lv_aload_n hx hb dl_230 rfl (lv_at hl 0 rfl) ?_
  refine lv_iload hx hb dl_231 (lv_at hl 4 rfl) ?_
  refine lv_iconst (v := 1) hx hb dl_233 (by decide) ?_
  refine lv_iadd hx hb dl_234 ?_
  refine va_sld hx hb hX hbl hbA hw.1.2.2.2.1 (hin 1 (by decide) (by decide)) dl_235 ?_
  refine lv_aload_n hx hb dl_236 rfl (lv_at hl 0 rfl) ?_
  refine lv_iload hx hb dl_237 (lv_at hl 4 rfl) ?_
  refine lv_iconst (v := 2) hx hb dl_239 (by decide) ?_
  refine lv_iadd hx hb dl_240 ?_
  refine va_sld hx hb hX hbl hbA hw.1.2.2.2.1 (hin 2 (by decide) (by decide)) dl_241 ?_
  refine lv_aload_n hx hb dl_242 rfl (lv_at hl 3 rfl) ?_
  refine hl_calliC hw (hm_runSW (rest := []) EvC_cl X hw.1 (kL_looks hlt hG ho h) yw_looks kw835 rfl hl.1 rfl rfl rfl (Nat.le_of_ble_eq_true rfl) ⟨by decide, by decide⟩ ⟨by omega, by omega⟩ dl_243) (fun rk u H locs hp hw => ?_)
  obtain ⟨I2, J2, T2, F2, L2⟩ := u
  obtain ⟨ho, h⟩ := hp
  replace ho : (ro, 4, 1) ∈ L2 := ho
  refine lv_istore (lv' := [(5, _), (0, _), (1, _), (2, _), (3, _), (4, _)]) hx hb dl_246 hl (by decide) rfl (fun ls hl => ?_)
  refine lv_aload_n hx hb dl_248 rfl (lv_at hl 3 rfl) ?_
  refine lv_aload_n hx hb dl_249 rfl (lv_at hl 1 rfl) ?_
  refine lv_iload hx hb dl_250 (lv_at hl 5 rfl) ?_
  refine lv_iconst (v := 1) hx hb dl_252 (by decide) ?_
  refine lv_iadd hx hb dl_253 ?_
  refine va_sld hx hb hX hbl hbA hw.1.2.2.2.1 (hin 1 (by decide) (by decide)) dl_254 ?_
  refine lv_aload_n hx hb dl_255 rfl (lv_at hl 1 rfl) ?_
  refine lv_iload hx hb dl_256 (lv_at hl 5 rfl) ?_
  refine lv_iconst (v := 2) hx hb dl_258 (by decide) ?_
  refine lv_iadd hx hb dl_259 ?_
  refine va_sld hx hb hX hbl hbA hw.1.2.2.2.1 (hin 2 (by decide) (by decide)) dl_260 ?_
  refine hl_calliM hw (hm_runV (rest := []) hCl_true X hw.2.1 (cM_looks h) ykM_looks kw1586 rfl LM_0 rfl hl.1 rfl rfl rfl (Nat.le_of_ble_eq_true rfl) ⟨by decide, by decide⟩ ⟨by omega, by omega⟩ dl_261) (fun rb u H locs hp hw => ?_)
  obtain ⟨IM2, rfl, h⟩ := hp
  refine lv_istore (lv' := [(6, _), (5, _), (0, _), (1, _), (2, _), (3, _), (4, _)]) hx hb dl_264 hl (by decide) rfl (fun ls hl => ?_)
  refine lv_aload_n hx hb dl_266 rfl (lv_at hl 4 rfl) ?_
  refine hl_calliM hw (hm_runV (rest := []) hCl_true X hw.2.1 (cM_thrown h) ykM_thrown kw1575 rfl LM_0 rfl hl.1 rfl rfl rfl (Nat.le_of_ble_eq_true rfl) ⟨by decide, by decide⟩ ⟨by omega, by omega⟩ dl_267) (fun rt u H locs hp hw => ?_)
  obtain ⟨rfl, h⟩ := hp
  refine lv_iload hx hb dl_270 (lv_at hl 1 rfl) ?_
  refine lv_icmp_eq (tgt := 277) hx hb dl_272 (by decide) (fun hc => ?_) (fun hc => ?_)
  rotate_left
  · exact absurd h.1 hc
  have h := h.2
  refine lv_iload hx hb dl_277 (lv_at hl 1 rfl) ?_
  refine lv_if_ne (tgt := 301) hx hb dl_279 (by decide) (fun hc => ?_) (fun hc => ?_)
  · have h := h.2
    refine lv_goto (tgt := 1771) hx hb dl_301 (by decide) ?_
    refine W.widen (k := cl + 90) (n := sl + 9000) (by omega) (by omega) ?_
    exact hK _ _ _ h hw (lv_sub hl [2, 3, 4, 5, 6] rfl)
  have hj := h.1 hc
  have h := h.2
  refine lv_aload_n hx hb dl_282 rfl (lv_at hl 5 rfl) ?_
  refine lv_iconst (v := 0) hx hb dl_283 (by decide) ?_
  refine hm_lald X hw.1 ho (by unfold vp_in; decide) dl_284 ?_
  refine lv_iload hx hb dl_285 (lv_at hl 0 rfl) ?_
  refine lv_if_eq (tgt := 294) hx hb dl_287 (by decide) (fun hc => ?_) (fun hc => ?_)
  · rw [if_pos hc] at hj
    refine lv_lconst (v := 0) hx hb dl_294 (by decide) ?_
    refine W.lcmp hx hb dl_295 ?_
    refine lv_if_eq (tgt := 301) hx hb dl_296 (by decide) (fun hc => ?_) (fun hc => ?_)
    rotate_left
    · exact absurd (hl_cmp_eq hj) hc
    refine lv_goto (tgt := 1771) hx hb dl_301 (by decide) ?_
    refine W.widen (k := cl + 90) (n := sl + 9000) (by omega) (by omega) ?_
    exact hK _ _ _ h hw (lv_sub hl [2, 3, 4, 5, 6] rfl)
  rw [if_neg hc] at hj
  refine lv_lconst (v := 1) hx hb dl_290 (by decide) ?_
  refine lv_goto (tgt := 295) hx hb dl_291 (by decide) ?_
  refine W.lcmp hx hb dl_295 ?_
  refine lv_if_eq (tgt := 301) hx hb dl_296 (by decide) (fun hc => ?_) (fun hc => ?_)
  rotate_left
  · exact absurd (hl_cmp_eq hj) hc
  refine lv_goto (tgt := 1771) hx hb dl_301 (by decide) ?_
  refine W.widen (k := cl + 90) (n := sl + 9000) (by omega) (by omega) ?_
  exact hK _ _ _ h hw (lv_sub hl [2, 3, 4, 5, 6] rfl)
theorem wl_round {p : Program} {l : Launch} {e : Env} {s : State} {m : MethodId} {below : List Frame} {meth : Method} {c : Code} {H : Heap} {locs : List Loc} {cl sl : Nat} {Qz : State → Prop} {ls : Array Slot} {D : va_G} {cA : Nat → ClassId} {zC zM ro b Ln : Nat} {xs : Nat → Int32} {i : Int32} {I : HI} {J : HJ} {T F TM : HR} {L : HL} {IM : HI} {JM : HJ} {A : Nat → Prop} {K : HS → HI → HJ → Prop} (hx : p.tables.exec = Jvm.exec) (hb : c.code = code) (X : hX p m c s #[Value.ref b] R_law code 8) (hlt : l.stackTraces = false) (hX : va_X b Ln xs s s.heap) (hbl : b < s.heap.size) (hbA : ¬ A b) (hin : ∀ j : Int32, j < 6 → ¬ j < 0 → vp_in (i + j) Ln) (hG : Geo F L) (ho : (ro, 4, 1) ∈ L) (hc1 : cl + 90 ≤ room_1.cells) (hs1 : sl + 9000 ≤ room_1.slots) (hK : ∀ (SC : HS) (IM : HI) (JM : HJ) {ls : Array Slot} {H : Heap} {locs : List Loc}, K SC IM JM → hW2 D cA zC zM SC (IM, JM, TM, FM, LM) A s H locs → lv_has ls 8 [(0, .ref b), (1, .ref (zC + 0)), (2, .ref (zM + 0)), (3, .ref (zC + ro)), (4, .int i)] → W p l e room_1 s m #[Value.ref b] below meth c H locs (cl + 90) (sl + 9000) Qz (F0 m 1771 ls [])) (hw : hW2 D cA zC zM (I, J, T, F, L) (IM, JM, TM, FM, LM) A s H locs) (hl : lv_has ls 8 [(0, .ref b), (1, .ref (zC + 0)), (2, .ref (zM + 0)), (3, .ref (zC + ro)), (4, .int i)]) (h : St_round (xs (nx (i + 1))) (xs (nx (i + 2))) I J T F L ro IM JM K) : W p l e room_1 s m #[Value.ref b] below meth c H locs cl sl Qz (F0 m 304 ls []) := by
  unfold St_round at h
  refine lv_aload_n hx hb dl_304 rfl (lv_at hl 1 rfl) ?_
  refine lv_aload_n hx hb dl_305 rfl (lv_at hl 0 rfl) ?_
  refine lv_iload hx hb dl_306 (lv_at hl 4 rfl) ?_
  refine lv_iconst (v := 1) hx hb dl_308 (by decide) ?_
  refine lv_iadd hx hb dl_309 ?_
  refine va_sld hx hb hX hbl hbA hw.1.2.2.2.1 (hin 1 (by decide) (by decide)) dl_310 ?_
  refine lv_aload_n hx hb dl_311 rfl (lv_at hl 0 rfl) ?_
  refine lv_iload hx hb dl_312 (lv_at hl 4 rfl) ?_
  refine lv_iconst (v := 2) hx hb dl_314 (by decide) ?_
  refine lv_iadd hx hb dl_315 ?_
  refine va_sld hx hb hX hbl hbA hw.1.2.2.2.1 (hin 2 (by decide) (by decide)) dl_316 ?_
  refine lv_aload_n hx hb dl_317 rfl (lv_at hl 3 rfl) ?_
  refine hl_calliC hw (hm_runSW (rest := []) EvC_cl X hw.1 (kL_round hlt hG ho h) yw_round kw850 rfl hl.1 rfl rfl rfl (Nat.le_of_ble_eq_true rfl) ⟨by decide, by decide⟩ ⟨by omega, by omega⟩ dl_318) (fun rk u H locs hp hw => ?_)
  obtain ⟨I2, J2, T2, F2, L2⟩ := u
  obtain ⟨ho, h⟩ := hp
  replace ho : (ro, 4, 1) ∈ L2 := ho
  refine lv_istore (lv' := [(5, _), (0, _), (1, _), (2, _), (3, _), (4, _)]) hx hb dl_321 hl (by decide) rfl (fun ls hl => ?_)
  refine lv_aload_n hx hb dl_323 rfl (lv_at hl 3 rfl) ?_
  refine lv_aload_n hx hb dl_324 rfl (lv_at hl 1 rfl) ?_
  refine lv_iload hx hb dl_325 (lv_at hl 5 rfl) ?_
  refine lv_iconst (v := 1) hx hb dl_327 (by decide) ?_
  refine lv_iadd hx hb dl_328 ?_
  refine va_sld hx hb hX hbl hbA hw.1.2.2.2.1 (hin 1 (by decide) (by decide)) dl_329 ?_
  refine lv_aload_n hx hb dl_330 rfl (lv_at hl 1 rfl) ?_
  refine lv_iload hx hb dl_331 (lv_at hl 5 rfl) ?_
  refine lv_iconst (v := 2) hx hb dl_333 (by decide) ?_
  refine lv_iadd hx hb dl_334 ?_
  refine va_sld hx hb hX hbl hbA hw.1.2.2.2.1 (hin 2 (by decide) (by decide)) dl_335 ?_
  refine hl_calliM hw (hm_runV (rest := []) hCl_true X hw.2.1 (cM_round h) ykM_round kw1598 rfl LM_0 rfl hl.1 rfl rfl rfl (Nat.le_of_ble_eq_true rfl) ⟨by decide, by decide⟩ ⟨by omega, by omega⟩ dl_336) (fun rb u H locs hp hw => ?_)
  obtain ⟨IM2, rfl, h⟩ := hp
  refine lv_istore (lv' := [(6, _), (5, _), (0, _), (1, _), (2, _), (3, _), (4, _)]) hx hb dl_339 hl (by decide) rfl (fun ls hl => ?_)
  refine lv_aload_n hx hb dl_341 rfl (lv_at hl 4 rfl) ?_
  refine hl_calliM hw (hm_runV (rest := []) hCl_true X hw.2.1 (cM_thrown h) ykM_thrown kw1575 rfl LM_0 rfl hl.1 rfl rfl rfl (Nat.le_of_ble_eq_true rfl) ⟨by decide, by decide⟩ ⟨by omega, by omega⟩ dl_342) (fun rt u H locs hp hw => ?_)
  obtain ⟨rfl, h⟩ := hp
  refine lv_iload hx hb dl_345 (lv_at hl 1 rfl) ?_
  refine lv_icmp_eq (tgt := 352) hx hb dl_347 (by decide) (fun hc => ?_) (fun hc => ?_)
  rotate_left
  · exact absurd h.1 hc
  have h := h.2
  refine lv_iload hx hb dl_352 (lv_at hl 1 rfl) ?_
  refine lv_if_ne (tgt := 376) hx hb dl_354 (by decide) (fun hc => ?_) (fun hc => ?_)
  · have h := h.2
    refine lv_goto (tgt := 1771) hx hb dl_376 (by decide) ?_
    refine W.widen (k := cl + 90) (n := sl + 9000) (by omega) (by omega) ?_
    exact hK _ _ _ h hw (lv_sub hl [2, 3, 4, 5, 6] rfl)
  have hj := h.1 hc
  have h := h.2
  refine lv_aload_n hx hb dl_357 rfl (lv_at hl 5 rfl) ?_
  refine lv_iconst (v := 0) hx hb dl_358 (by decide) ?_
  refine hm_lald X hw.1 ho (by unfold vp_in; decide) dl_359 ?_
  refine lv_iload hx hb dl_360 (lv_at hl 0 rfl) ?_
  refine lv_if_eq (tgt := 369) hx hb dl_362 (by decide) (fun hc => ?_) (fun hc => ?_)
  · rw [if_pos hc] at hj
    refine lv_lconst (v := 0) hx hb dl_369 (by decide) ?_
    refine W.lcmp hx hb dl_370 ?_
    refine lv_if_eq (tgt := 376) hx hb dl_371 (by decide) (fun hc => ?_) (fun hc => ?_)
    rotate_left
    · exact absurd (hl_cmp_eq hj) hc
    refine lv_goto (tgt := 1771) hx hb dl_376 (by decide) ?_
    refine W.widen (k := cl + 90) (n := sl + 9000) (by omega) (by omega) ?_
    exact hK _ _ _ h hw (lv_sub hl [2, 3, 4, 5, 6] rfl)
  rw [if_neg hc] at hj
  refine lv_lconst (v := 1) hx hb dl_365 (by decide) ?_
  refine lv_goto (tgt := 370) hx hb dl_366 (by decide) ?_
  refine W.lcmp hx hb dl_370 ?_
  refine lv_if_eq (tgt := 376) hx hb dl_371 (by decide) (fun hc => ?_) (fun hc => ?_)
  rotate_left
  · exact absurd (hl_cmp_eq hj) hc
  refine lv_goto (tgt := 1771) hx hb dl_376 (by decide) ?_
  refine W.widen (k := cl + 90) (n := sl + 9000) (by omega) (by omega) ?_
  exact hK _ _ _ h hw (lv_sub hl [2, 3, 4, 5, 6] rfl)
theorem wl_heap {p : Program} {l : Launch} {e : Env} {s : State} {m : MethodId} {below : List Frame} {meth : Method} {c : Code} {H : Heap} {locs : List Loc} {cl sl : Nat} {Qz : State → Prop} {ls : Array Slot} {D : va_G} {cA : Nat → ClassId} {zC zM ro b Ln : Nat} {xs : Nat → Int32} {i : Int32} {I : HI} {J : HJ} {T F TM : HR} {L : HL} {IM : HI} {JM : HJ} {A : Nat → Prop} {K : HS → HI → HJ → Prop} (hx : p.tables.exec = Jvm.exec) (hb : c.code = code) (X : hX p m c s #[Value.ref b] R_law code 8) (hlt : l.stackTraces = false) (hX : va_X b Ln xs s s.heap) (hbl : b < s.heap.size) (hbA : ¬ A b) (hin : ∀ j : Int32, j < 6 → ¬ j < 0 → vp_in (i + j) Ln) (hG : Geo F L) (ho : (ro, 4, 1) ∈ L) (hc1 : cl + 90 ≤ room_1.cells) (hs1 : sl + 9000 ≤ room_1.slots) (hK : ∀ (SC : HS) (IM : HI) (JM : HJ) {ls : Array Slot} {H : Heap} {locs : List Loc}, K SC IM JM → hW2 D cA zC zM SC (IM, JM, TM, FM, LM) A s H locs → lv_has ls 8 [(0, .ref b), (1, .ref (zC + 0)), (2, .ref (zM + 0)), (3, .ref (zC + ro)), (4, .int i)] → W p l e room_1 s m #[Value.ref b] below meth c H locs (cl + 90) (sl + 9000) Qz (F0 m 1771 ls [])) (hw : hW2 D cA zC zM (I, J, T, F, L) (IM, JM, TM, FM, LM) A s H locs) (hl : lv_has ls 8 [(0, .ref b), (1, .ref (zC + 0)), (2, .ref (zM + 0)), (3, .ref (zC + ro)), (4, .int i)]) (h : St_heap (xs (nx (i + 1))) (xs (nx (i + 2))) I J T F L ro IM JM K) : W p l e room_1 s m #[Value.ref b] below meth c H locs cl sl Qz (F0 m 379 ls []) := by
  unfold St_heap at h
  refine lv_aload_n hx hb dl_379 rfl (lv_at hl 1 rfl) ?_
  refine lv_aload_n hx hb dl_380 rfl (lv_at hl 0 rfl) ?_
  refine lv_iload hx hb dl_381 (lv_at hl 4 rfl) ?_
  refine lv_iconst (v := 1) hx hb dl_383 (by decide) ?_
  refine lv_iadd hx hb dl_384 ?_
  refine va_sld hx hb hX hbl hbA hw.1.2.2.2.1 (hin 1 (by decide) (by decide)) dl_385 ?_
  refine lv_aload_n hx hb dl_386 rfl (lv_at hl 0 rfl) ?_
  refine lv_iload hx hb dl_387 (lv_at hl 4 rfl) ?_
  refine lv_iconst (v := 2) hx hb dl_389 (by decide) ?_
  refine lv_iadd hx hb dl_390 ?_
  refine va_sld hx hb hX hbl hbA hw.1.2.2.2.1 (hin 2 (by decide) (by decide)) dl_391 ?_
  refine hl_calliC hw (hm_runV (rest := []) EvC_cl X hw.1 (cH_heap EvC_cl hG h) yk_X10_heap kw519 rfl (gl_0 hG) rfl hl.1 rfl rfl rfl (Nat.le_of_ble_eq_true rfl) ⟨by decide, by decide⟩ ⟨by omega, by omega⟩ dl_392) (fun ra u H locs hp hw => ?_)
  obtain ⟨I2, rfl, h⟩ := hp
  refine lv_aload_n hx hb dl_395 rfl (lv_at hl 2 rfl) ?_
  refine lv_aload_n hx hb dl_396 rfl (lv_at hl 0 rfl) ?_
  refine lv_iload hx hb dl_397 (lv_at hl 4 rfl) ?_
  refine lv_iconst (v := 1) hx hb dl_399 (by decide) ?_
  refine lv_iadd hx hb dl_400 ?_
  refine va_sld hx hb hX hbl hbA hw.1.2.2.2.1 (hin 1 (by decide) (by decide)) dl_401 ?_
  refine lv_aload_n hx hb dl_402 rfl (lv_at hl 0 rfl) ?_
  refine lv_iload hx hb dl_403 (lv_at hl 4 rfl) ?_
  refine lv_iconst (v := 2) hx hb dl_405 (by decide) ?_
  refine lv_iadd hx hb dl_406 ?_
  refine va_sld hx hb hX hbl hbA hw.1.2.2.2.1 (hin 2 (by decide) (by decide)) dl_407 ?_
  refine hl_calliM hw (hm_runV (rest := [_]) hCl_true X hw.2.1 (cM_heap h) ykM_heap kw1602 rfl LM_0 rfl hl.1 rfl rfl rfl (Nat.le_of_ble_eq_true rfl) ⟨by decide, by decide⟩ ⟨by omega, by omega⟩ dl_408) (fun rb u H locs hp hw => ?_)
  obtain ⟨IM2, rfl, h⟩ := hp
  refine lv_icmp_eq (tgt := 1771) hx hb dl_411 (by decide) (fun hc => ?_) (fun hc => ?_)
  · have h := h.2
    refine W.widen (k := cl + 90) (n := sl + 9000) (by omega) (by omega) ?_
    exact hK _ _ _ h hw (lv_sub hl [0, 1, 2, 3, 4] rfl)
  · exact absurd h.1 hc
theorem wl_law {p : Program} {l : Launch} {e : Env} {s : State} {m : MethodId} {below : List Frame} {meth : Method} {c : Code} {H : Heap} {locs : List Loc} {cl sl : Nat} {Qz : State → Prop} {ls : Array Slot} {D : va_G} {cA : Nat → ClassId} {zC zM ro b Ln : Nat} {xs : Nat → Int32} {i : Int32} {I : HI} {J : HJ} {T F TM : HR} {L : HL} {IM : HI} {JM : HJ} {A : Nat → Prop} {K : HS → HI → HJ → Prop} (hx : p.tables.exec = Jvm.exec) (hb : c.code = code) (X : hX p m c s #[Value.ref b] R_law code 8) (hlt : l.stackTraces = false) (hX : va_X b Ln xs s s.heap) (hbl : b < s.heap.size) (hbA : ¬ A b) (hin : ∀ j : Int32, j < 6 → ¬ j < 0 → vp_in (i + j) Ln) (hG : Geo F L) (ho : (ro, 4, 1) ∈ L) (hc1 : cl + 90 ≤ room_1.cells) (hs1 : sl + 9000 ≤ room_1.slots) (hK : ∀ (SC : HS) (IM : HI) (JM : HJ) {ls : Array Slot} {H : Heap} {locs : List Loc}, K SC IM JM → hW2 D cA zC zM SC (IM, JM, TM, FM, LM) A s H locs → lv_has ls 8 [(0, .ref b), (1, .ref (zC + 0)), (2, .ref (zM + 0)), (3, .ref (zC + ro)), (4, .int i)] → W p l e room_1 s m #[Value.ref b] below meth c H locs (cl + 90) (sl + 9000) Qz (F0 m 1771 ls [])) (hw : hW2 D cA zC zM (I, J, T, F, L) (IM, JM, TM, FM, LM) A s H locs) (hl : lv_has ls 8 [(0, .ref b), (1, .ref (zC + 0)), (2, .ref (zM + 0)), (3, .ref (zC + ro)), (4, .int i)]) (h : St_law (xs (nx (i + 1))) (xs (nx (i + 2))) I J T F L ro IM JM K) : W p l e room_1 s m #[Value.ref b] below meth c H locs cl sl Qz (F0 m 416 ls []) := by
  unfold St_law at h
  refine lv_aload_n hx hb dl_416 rfl (lv_at hl 1 rfl) ?_
  refine lv_aload_n hx hb dl_417 rfl (lv_at hl 0 rfl) ?_
  refine lv_iload hx hb dl_418 (lv_at hl 4 rfl) ?_
  refine lv_iconst (v := 1) hx hb dl_420 (by decide) ?_
  refine lv_iadd hx hb dl_421 ?_
  refine va_sld hx hb hX hbl hbA hw.1.2.2.2.1 (hin 1 (by decide) (by decide)) dl_422 ?_
  refine lv_aload_n hx hb dl_423 rfl (lv_at hl 0 rfl) ?_
  refine lv_iload hx hb dl_424 (lv_at hl 4 rfl) ?_
  refine lv_iconst (v := 2) hx hb dl_426 (by decide) ?_
  refine lv_iadd hx hb dl_427 ?_
  refine va_sld hx hb hX hbl hbA hw.1.2.2.2.1 (hin 2 (by decide) (by decide)) dl_428 ?_
  refine hl_calliC hw (hm_runV (rest := []) EvC_cl X hw.1 (cH_law EvC_cl hG h) yk_X10_law kw523 rfl (gl_0 hG) rfl hl.1 rfl rfl rfl (Nat.le_of_ble_eq_true rfl) ⟨by decide, by decide⟩ ⟨by omega, by omega⟩ dl_429) (fun ra u H locs hp hw => ?_)
  obtain ⟨I2, rfl, h⟩ := hp
  refine lv_aload_n hx hb dl_432 rfl (lv_at hl 2 rfl) ?_
  refine lv_aload_n hx hb dl_433 rfl (lv_at hl 0 rfl) ?_
  refine lv_iload hx hb dl_434 (lv_at hl 4 rfl) ?_
  refine lv_iconst (v := 1) hx hb dl_436 (by decide) ?_
  refine lv_iadd hx hb dl_437 ?_
  refine va_sld hx hb hX hbl hbA hw.1.2.2.2.1 (hin 1 (by decide) (by decide)) dl_438 ?_
  refine lv_aload_n hx hb dl_439 rfl (lv_at hl 0 rfl) ?_
  refine lv_iload hx hb dl_440 (lv_at hl 4 rfl) ?_
  refine lv_iconst (v := 2) hx hb dl_442 (by decide) ?_
  refine lv_iadd hx hb dl_443 ?_
  refine va_sld hx hb hX hbl hbA hw.1.2.2.2.1 (hin 2 (by decide) (by decide)) dl_444 ?_
  refine hl_calliM hw (hm_runV (rest := [_]) hCl_true X hw.2.1 (cM_law h) ykM_law kw1606 rfl LM_0 rfl hl.1 rfl rfl rfl (Nat.le_of_ble_eq_true rfl) ⟨by decide, by decide⟩ ⟨by omega, by omega⟩ dl_445) (fun rb u H locs hp hw => ?_)
  obtain ⟨IM2, rfl, h⟩ := hp
  refine lv_icmp_eq (tgt := 1771) hx hb dl_448 (by decide) (fun hc => ?_) (fun hc => ?_)
  · have h := h.2
    refine W.widen (k := cl + 90) (n := sl + 9000) (by omega) (by omega) ?_
    exact hK _ _ _ h hw (lv_sub hl [0, 1, 2, 3, 4] rfl)
  · exact absurd h.1 hc
theorem wl_feed {p : Program} {l : Launch} {e : Env} {s : State} {m : MethodId} {below : List Frame} {meth : Method} {c : Code} {H : Heap} {locs : List Loc} {cl sl : Nat} {Qz : State → Prop} {ls : Array Slot} {D : va_G} {cA : Nat → ClassId} {zC zM ro b Ln : Nat} {xs : Nat → Int32} {i : Int32} {I : HI} {J : HJ} {T F TM : HR} {L : HL} {IM : HI} {JM : HJ} {A : Nat → Prop} {K : HS → HI → HJ → Prop} (hx : p.tables.exec = Jvm.exec) (hb : c.code = code) (X : hX p m c s #[Value.ref b] R_law code 8) (hlt : l.stackTraces = false) (hX : va_X b Ln xs s s.heap) (hbl : b < s.heap.size) (hbA : ¬ A b) (hin : ∀ j : Int32, j < 6 → ¬ j < 0 → vp_in (i + j) Ln) (hG : Geo F L) (ho : (ro, 4, 1) ∈ L) (hc1 : cl + 90 ≤ room_1.cells) (hs1 : sl + 9000 ≤ room_1.slots) (hK : ∀ (SC : HS) (IM : HI) (JM : HJ) {ls : Array Slot} {H : Heap} {locs : List Loc}, K SC IM JM → hW2 D cA zC zM SC (IM, JM, TM, FM, LM) A s H locs → lv_has ls 8 [(0, .ref b), (1, .ref (zC + 0)), (2, .ref (zM + 0)), (3, .ref (zC + ro)), (4, .int i)] → W p l e room_1 s m #[Value.ref b] below meth c H locs (cl + 90) (sl + 9000) Qz (F0 m 1771 ls [])) (hw : hW2 D cA zC zM (I, J, T, F, L) (IM, JM, TM, FM, LM) A s H locs) (hl : lv_has ls 8 [(0, .ref b), (1, .ref (zC + 0)), (2, .ref (zM + 0)), (3, .ref (zC + ro)), (4, .int i)]) (h : St_feed (xs (nx (i + 1))) (xs (nx (i + 2))) (xs (nx (i + 3))) (xs (nx (i + 4))) (xs (nx (i + 5))) I J T F L ro IM JM K) : W p l e room_1 s m #[Value.ref b] below meth c H locs cl sl Qz (F0 m 453 ls []) := by
  unfold St_feed at h
  refine lv_aload_n hx hb dl_453 rfl (lv_at hl 1 rfl) ?_
  refine lv_aload_n hx hb dl_454 rfl (lv_at hl 0 rfl) ?_
  refine lv_iload hx hb dl_455 (lv_at hl 4 rfl) ?_
  refine lv_iconst (v := 1) hx hb dl_457 (by decide) ?_
  refine lv_iadd hx hb dl_458 ?_
  refine va_sld hx hb hX hbl hbA hw.1.2.2.2.1 (hin 1 (by decide) (by decide)) dl_459 ?_
  refine lv_aload_n hx hb dl_460 rfl (lv_at hl 0 rfl) ?_
  refine lv_iload hx hb dl_461 (lv_at hl 4 rfl) ?_
  refine lv_iconst (v := 2) hx hb dl_463 (by decide) ?_
  refine lv_iadd hx hb dl_464 ?_
  refine va_sld hx hb hX hbl hbA hw.1.2.2.2.1 (hin 2 (by decide) (by decide)) dl_465 ?_
  refine lv_aload_n hx hb dl_466 rfl (lv_at hl 0 rfl) ?_
  refine lv_iload hx hb dl_467 (lv_at hl 4 rfl) ?_
  refine lv_iconst (v := 3) hx hb dl_469 (by decide) ?_
  refine lv_iadd hx hb dl_470 ?_
  refine va_sld hx hb hX hbl hbA hw.1.2.2.2.1 (hin 3 (by decide) (by decide)) dl_471 ?_
  refine lv_aload_n hx hb dl_472 rfl (lv_at hl 0 rfl) ?_
  refine lv_iload hx hb dl_473 (lv_at hl 4 rfl) ?_
  refine lv_iconst (v := 4) hx hb dl_475 (by decide) ?_
  refine lv_iadd hx hb dl_476 ?_
  refine va_sld hx hb hX hbl hbA hw.1.2.2.2.1 (hin 4 (by decide) (by decide)) dl_477 ?_
  refine lv_aload_n hx hb dl_478 rfl (lv_at hl 0 rfl) ?_
  refine lv_iload hx hb dl_479 (lv_at hl 4 rfl) ?_
  refine lv_iconst (v := 5) hx hb dl_481 (by decide) ?_
  refine lv_iadd hx hb dl_482 ?_
  refine va_sld hx hb hX hbl hbA hw.1.2.2.2.1 (hin 5 (by decide) (by decide)) dl_483 ?_
  refine hl_calliC hw (hm_runV (rest := []) EvC_cl X hw.1 (cH_feed EvC_cl hG h) yk_X10_feed kw527 rfl (gl_0 hG) rfl hl.1 rfl rfl rfl (Nat.le_of_ble_eq_true rfl) ⟨by decide, by decide⟩ ⟨by omega, by omega⟩ dl_484) (fun ra u H locs hp hw => ?_)
  obtain ⟨I2, rfl, h⟩ := hp
  refine lv_aload_n hx hb dl_487 rfl (lv_at hl 2 rfl) ?_
  refine lv_aload_n hx hb dl_488 rfl (lv_at hl 0 rfl) ?_
  refine lv_iload hx hb dl_489 (lv_at hl 4 rfl) ?_
  refine lv_iconst (v := 1) hx hb dl_491 (by decide) ?_
  refine lv_iadd hx hb dl_492 ?_
  refine va_sld hx hb hX hbl hbA hw.1.2.2.2.1 (hin 1 (by decide) (by decide)) dl_493 ?_
  refine lv_aload_n hx hb dl_494 rfl (lv_at hl 0 rfl) ?_
  refine lv_iload hx hb dl_495 (lv_at hl 4 rfl) ?_
  refine lv_iconst (v := 2) hx hb dl_497 (by decide) ?_
  refine lv_iadd hx hb dl_498 ?_
  refine va_sld hx hb hX hbl hbA hw.1.2.2.2.1 (hin 2 (by decide) (by decide)) dl_499 ?_
  refine lv_aload_n hx hb dl_500 rfl (lv_at hl 0 rfl) ?_
  refine lv_iload hx hb dl_501 (lv_at hl 4 rfl) ?_
  refine lv_iconst (v := 3) hx hb dl_503 (by decide) ?_
  refine lv_iadd hx hb dl_504 ?_
  refine va_sld hx hb hX hbl hbA hw.1.2.2.2.1 (hin 3 (by decide) (by decide)) dl_505 ?_
  refine lv_aload_n hx hb dl_506 rfl (lv_at hl 0 rfl) ?_
  refine lv_iload hx hb dl_507 (lv_at hl 4 rfl) ?_
  refine lv_iconst (v := 4) hx hb dl_509 (by decide) ?_
  refine lv_iadd hx hb dl_510 ?_
  refine va_sld hx hb hX hbl hbA hw.1.2.2.2.1 (hin 4 (by decide) (by decide)) dl_511 ?_
  refine lv_aload_n hx hb dl_512 rfl (lv_at hl 0 rfl) ?_
  refine lv_iload hx hb dl_513 (lv_at hl 4 rfl) ?_
  refine lv_iconst (v := 5) hx hb dl_515 (by decide) ?_
  refine lv_iadd hx hb dl_516 ?_
  refine va_sld hx hb hX hbl hbA hw.1.2.2.2.1 (hin 5 (by decide) (by decide)) dl_517 ?_
  refine hl_calliM hw (hm_runV (rest := [_]) hCl_true X hw.2.1 (cM_feed h) ykM_feed kw1610 rfl LM_0 rfl hl.1 rfl rfl rfl (Nat.le_of_ble_eq_true rfl) ⟨by decide, by decide⟩ ⟨by omega, by omega⟩ dl_518) (fun rb u H locs hp hw => ?_)
  obtain ⟨IM2, rfl, h⟩ := hp
  refine lv_icmp_eq (tgt := 1771) hx hb dl_521 (by decide) (fun hc => ?_) (fun hc => ?_)
  · have h := h.2
    refine W.widen (k := cl + 90) (n := sl + 9000) (by omega) (by omega) ?_
    exact hK _ _ _ h hw (lv_sub hl [0, 1, 2, 3, 4] rfl)
  · exact absurd h.1 hc
theorem wl_rules {p : Program} {l : Launch} {e : Env} {s : State} {m : MethodId} {below : List Frame} {meth : Method} {c : Code} {H : Heap} {locs : List Loc} {cl sl : Nat} {Qz : State → Prop} {ls : Array Slot} {D : va_G} {cA : Nat → ClassId} {zC zM ro b Ln : Nat} {xs : Nat → Int32} {i : Int32} {I : HI} {J : HJ} {T F TM : HR} {L : HL} {IM : HI} {JM : HJ} {A : Nat → Prop} {K : HS → HI → HJ → Prop} (hx : p.tables.exec = Jvm.exec) (hb : c.code = code) (X : hX p m c s #[Value.ref b] R_law code 8) (hlt : l.stackTraces = false) (hX : va_X b Ln xs s s.heap) (hbl : b < s.heap.size) (hbA : ¬ A b) (hin : ∀ j : Int32, j < 6 → ¬ j < 0 → vp_in (i + j) Ln) (hG : Geo F L) (ho : (ro, 4, 1) ∈ L) (hc1 : cl + 90 ≤ room_1.cells) (hs1 : sl + 9000 ≤ room_1.slots) (hK : ∀ (SC : HS) (IM : HI) (JM : HJ) {ls : Array Slot} {H : Heap} {locs : List Loc}, K SC IM JM → hW2 D cA zC zM SC (IM, JM, TM, FM, LM) A s H locs → lv_has ls 8 [(0, .ref b), (1, .ref (zC + 0)), (2, .ref (zM + 0)), (3, .ref (zC + ro)), (4, .int i)] → W p l e room_1 s m #[Value.ref b] below meth c H locs (cl + 90) (sl + 9000) Qz (F0 m 1771 ls [])) (hw : hW2 D cA zC zM (I, J, T, F, L) (IM, JM, TM, FM, LM) A s H locs) (hl : lv_has ls 8 [(0, .ref b), (1, .ref (zC + 0)), (2, .ref (zM + 0)), (3, .ref (zC + ro)), (4, .int i)]) (h : St_rules (xs (nx (i + 1))) I J T F L ro IM JM K) : W p l e room_1 s m #[Value.ref b] below meth c H locs cl sl Qz (F0 m 526 ls []) := by
  unfold St_rules at h
  refine lv_aload_n hx hb dl_526 rfl (lv_at hl 1 rfl) ?_
  refine lv_aload_n hx hb dl_527 rfl (lv_at hl 0 rfl) ?_
  refine lv_iload hx hb dl_528 (lv_at hl 4 rfl) ?_
  refine lv_iconst (v := 1) hx hb dl_530 (by decide) ?_
  refine lv_iadd hx hb dl_531 ?_
  refine va_sld hx hb hX hbl hbA hw.1.2.2.2.1 (hin 1 (by decide) (by decide)) dl_532 ?_
  refine lv_aload_n hx hb dl_533 rfl (lv_at hl 3 rfl) ?_
  refine hl_calliC hw (hm_runSW (rest := []) EvC_cl X hw.1 (kL_rules hlt hG ho h) yw_rules kw858 rfl hl.1 rfl rfl rfl (Nat.le_of_ble_eq_true rfl) ⟨by decide, by decide⟩ ⟨by omega, by omega⟩ dl_534) (fun rk u H locs hp hw => ?_)
  obtain ⟨I2, J2, T2, F2, L2⟩ := u
  obtain ⟨ho, h⟩ := hp
  replace ho : (ro, 4, 1) ∈ L2 := ho
  refine lv_istore (lv' := [(5, _), (0, _), (1, _), (2, _), (3, _), (4, _)]) hx hb dl_537 hl (by decide) rfl (fun ls hl => ?_)
  refine lv_aload_n hx hb dl_539 rfl (lv_at hl 3 rfl) ?_
  refine lv_aload_n hx hb dl_540 rfl (lv_at hl 1 rfl) ?_
  refine lv_iload hx hb dl_541 (lv_at hl 5 rfl) ?_
  refine lv_iconst (v := 1) hx hb dl_543 (by decide) ?_
  refine lv_iadd hx hb dl_544 ?_
  refine va_sld hx hb hX hbl hbA hw.1.2.2.2.1 (hin 1 (by decide) (by decide)) dl_545 ?_
  refine hl_calliM hw (hm_runV (rest := []) hCl_true X hw.2.1 (cM_rules h) ykM_rules kw1618 rfl LM_0 rfl hl.1 rfl rfl rfl (Nat.le_of_ble_eq_true rfl) ⟨by decide, by decide⟩ ⟨by omega, by omega⟩ dl_546) (fun rb u H locs hp hw => ?_)
  obtain ⟨IM2, JM2, rfl, h⟩ := hp
  refine lv_istore (lv' := [(6, _), (5, _), (0, _), (1, _), (2, _), (3, _), (4, _)]) hx hb dl_549 hl (by decide) rfl (fun ls hl => ?_)
  refine lv_aload_n hx hb dl_551 rfl (lv_at hl 4 rfl) ?_
  refine hl_calliM hw (hm_runV (rest := []) hCl_true X hw.2.1 (cM_thrown h) ykM_thrown kw1575 rfl LM_0 rfl hl.1 rfl rfl rfl (Nat.le_of_ble_eq_true rfl) ⟨by decide, by decide⟩ ⟨by omega, by omega⟩ dl_552) (fun rt u H locs hp hw => ?_)
  obtain ⟨rfl, h⟩ := hp
  refine lv_iload hx hb dl_555 (lv_at hl 1 rfl) ?_
  refine lv_icmp_eq (tgt := 562) hx hb dl_557 (by decide) (fun hc => ?_) (fun hc => ?_)
  rotate_left
  · exact absurd h.1 hc
  have h := h.2
  refine lv_iload hx hb dl_562 (lv_at hl 1 rfl) ?_
  refine lv_if_ne (tgt := 579) hx hb dl_564 (by decide) (fun hc => ?_) (fun hc => ?_)
  · have h := h.2
    refine lv_goto (tgt := 1771) hx hb dl_579 (by decide) ?_
    refine W.widen (k := cl + 90) (n := sl + 9000) (by omega) (by omega) ?_
    exact hK _ _ _ h hw (lv_sub hl [2, 3, 4, 5, 6] rfl)
  have hj := h.1 hc
  have h := h.2
  refine lv_aload_n hx hb dl_567 rfl (lv_at hl 5 rfl) ?_
  refine lv_iconst (v := 0) hx hb dl_568 (by decide) ?_
  refine hm_lald X hw.1 ho (by unfold vp_in; decide) dl_569 ?_
  refine lv_iload hx hb dl_570 (lv_at hl 0 rfl) ?_
  refine lv_i2l (v := Int32.toInt64 rb) hx hb dl_572 rfl ?_
  refine W.lcmp hx hb dl_573 ?_
  refine lv_if_eq (tgt := 579) hx hb dl_574 (by decide) (fun hc => ?_) (fun hc => ?_)
  rotate_left
  · exact absurd (hl_cmp_eq hj) hc
  refine lv_goto (tgt := 1771) hx hb dl_579 (by decide) ?_
  refine W.widen (k := cl + 90) (n := sl + 9000) (by omega) (by omega) ?_
  exact hK _ _ _ h hw (lv_sub hl [2, 3, 4, 5, 6] rfl)
theorem wl_fault {p : Program} {l : Launch} {e : Env} {s : State} {m : MethodId} {below : List Frame} {meth : Method} {c : Code} {H : Heap} {locs : List Loc} {cl sl : Nat} {Qz : State → Prop} {ls : Array Slot} {D : va_G} {cA : Nat → ClassId} {zC zM ro b Ln : Nat} {xs : Nat → Int32} {i : Int32} {I : HI} {J : HJ} {T F TM : HR} {L : HL} {IM : HI} {JM : HJ} {A : Nat → Prop} {K : HS → HI → HJ → Prop} (hx : p.tables.exec = Jvm.exec) (hb : c.code = code) (X : hX p m c s #[Value.ref b] R_law code 8) (hlt : l.stackTraces = false) (hX : va_X b Ln xs s s.heap) (hbl : b < s.heap.size) (hbA : ¬ A b) (hin : ∀ j : Int32, j < 6 → ¬ j < 0 → vp_in (i + j) Ln) (hG : Geo F L) (ho : (ro, 4, 1) ∈ L) (hc1 : cl + 90 ≤ room_1.cells) (hs1 : sl + 9000 ≤ room_1.slots) (hK : ∀ (SC : HS) (IM : HI) (JM : HJ) {ls : Array Slot} {H : Heap} {locs : List Loc}, K SC IM JM → hW2 D cA zC zM SC (IM, JM, TM, FM, LM) A s H locs → lv_has ls 8 [(0, .ref b), (1, .ref (zC + 0)), (2, .ref (zM + 0)), (3, .ref (zC + ro)), (4, .int i)] → W p l e room_1 s m #[Value.ref b] below meth c H locs (cl + 90) (sl + 9000) Qz (F0 m 1771 ls [])) (hw : hW2 D cA zC zM (I, J, T, F, L) (IM, JM, TM, FM, LM) A s H locs) (hl : lv_has ls 8 [(0, .ref b), (1, .ref (zC + 0)), (2, .ref (zM + 0)), (3, .ref (zC + ro)), (4, .int i)]) (h : St_fault I J T F L ro IM JM K) : W p l e room_1 s m #[Value.ref b] below meth c H locs cl sl Qz (F0 m 582 ls []) := by
  unfold St_fault at h
  refine lv_aload_n hx hb dl_582 rfl (lv_at hl 1 rfl) ?_
  refine hl_calliC hw (hm_runV (rest := []) EvC_cl X hw.1 (cH_fault EvC_cl hG h) yk_X10_fault kw535 rfl (gl_0 hG) rfl hl.1 rfl rfl rfl (Nat.le_of_ble_eq_true rfl) ⟨by decide, by decide⟩ ⟨by omega, by omega⟩ dl_583) (fun ra u H locs hp hw => ?_)
  obtain ⟨rfl, h⟩ := hp
  refine lv_aload_n hx hb dl_586 rfl (lv_at hl 2 rfl) ?_
  refine hl_calliM hw (hm_runV (rest := [_]) hCl_true X hw.2.1 (cM_fault h) ykM_fault kw1701 rfl LM_0 rfl hl.1 rfl rfl rfl (Nat.le_of_ble_eq_true rfl) ⟨by decide, by decide⟩ ⟨by omega, by omega⟩ dl_587) (fun rb u H locs hp hw => ?_)
  obtain ⟨IM2, rfl, h⟩ := hp
  refine lv_icmp_eq (tgt := 1771) hx hb dl_590 (by decide) (fun hc => ?_) (fun hc => ?_)
  · have h := h.2
    refine W.widen (k := cl + 90) (n := sl + 9000) (by omega) (by omega) ?_
    exact hK _ _ _ h hw (lv_sub hl [0, 1, 2, 3, 4] rfl)
  · exact absurd h.1 hc
theorem wl_about {p : Program} {l : Launch} {e : Env} {s : State} {m : MethodId} {below : List Frame} {meth : Method} {c : Code} {H : Heap} {locs : List Loc} {cl sl : Nat} {Qz : State → Prop} {ls : Array Slot} {D : va_G} {cA : Nat → ClassId} {zC zM ro b Ln : Nat} {xs : Nat → Int32} {i : Int32} {I : HI} {J : HJ} {T F TM : HR} {L : HL} {IM : HI} {JM : HJ} {A : Nat → Prop} {K : HS → HI → HJ → Prop} (hx : p.tables.exec = Jvm.exec) (hb : c.code = code) (X : hX p m c s #[Value.ref b] R_law code 8) (hlt : l.stackTraces = false) (hX : va_X b Ln xs s s.heap) (hbl : b < s.heap.size) (hbA : ¬ A b) (hin : ∀ j : Int32, j < 6 → ¬ j < 0 → vp_in (i + j) Ln) (hG : Geo F L) (ho : (ro, 4, 1) ∈ L) (hc1 : cl + 90 ≤ room_1.cells) (hs1 : sl + 9000 ≤ room_1.slots) (hK : ∀ (SC : HS) (IM : HI) (JM : HJ) {ls : Array Slot} {H : Heap} {locs : List Loc}, K SC IM JM → hW2 D cA zC zM SC (IM, JM, TM, FM, LM) A s H locs → lv_has ls 8 [(0, .ref b), (1, .ref (zC + 0)), (2, .ref (zM + 0)), (3, .ref (zC + ro)), (4, .int i)] → W p l e room_1 s m #[Value.ref b] below meth c H locs (cl + 90) (sl + 9000) Qz (F0 m 1771 ls [])) (hw : hW2 D cA zC zM (I, J, T, F, L) (IM, JM, TM, FM, LM) A s H locs) (hl : lv_has ls 8 [(0, .ref b), (1, .ref (zC + 0)), (2, .ref (zM + 0)), (3, .ref (zC + ro)), (4, .int i)]) (h : St_about (xs (nx (i + 1))) (xs (nx (i + 2))) I J T F L ro IM JM K) : W p l e room_1 s m #[Value.ref b] below meth c H locs cl sl Qz (F0 m 595 ls []) := by
  unfold St_about at h
  refine lv_aload_n hx hb dl_595 rfl (lv_at hl 1 rfl) ?_
  refine lv_aload_n hx hb dl_596 rfl (lv_at hl 0 rfl) ?_
  refine lv_iload hx hb dl_597 (lv_at hl 4 rfl) ?_
  refine lv_iconst (v := 1) hx hb dl_599 (by decide) ?_
  refine lv_iadd hx hb dl_600 ?_
  refine va_sld hx hb hX hbl hbA hw.1.2.2.2.1 (hin 1 (by decide) (by decide)) dl_601 ?_
  refine lv_aload_n hx hb dl_602 rfl (lv_at hl 0 rfl) ?_
  refine lv_iload hx hb dl_603 (lv_at hl 4 rfl) ?_
  refine lv_iconst (v := 2) hx hb dl_605 (by decide) ?_
  refine lv_iadd hx hb dl_606 ?_
  refine va_sld hx hb hX hbl hbA hw.1.2.2.2.1 (hin 2 (by decide) (by decide)) dl_607 ?_
  refine lv_aload_n hx hb dl_608 rfl (lv_at hl 3 rfl) ?_
  refine hl_calliC hw (hm_runSW (rest := []) EvC_cl X hw.1 (kL_about hlt hG ho h) yw_about kw1033 rfl hl.1 rfl rfl rfl (Nat.le_of_ble_eq_true rfl) ⟨by decide, by decide⟩ ⟨by omega, by omega⟩ dl_609) (fun rk u H locs hp hw => ?_)
  obtain ⟨I2, J2, T2, F2, L2⟩ := u
  obtain ⟨ho, h⟩ := hp
  replace ho : (ro, 4, 1) ∈ L2 := ho
  refine lv_istore (lv' := [(5, _), (0, _), (1, _), (2, _), (3, _), (4, _)]) hx hb dl_612 hl (by decide) rfl (fun ls hl => ?_)
  refine lv_aload_n hx hb dl_614 rfl (lv_at hl 3 rfl) ?_
  refine lv_aload_n hx hb dl_615 rfl (lv_at hl 1 rfl) ?_
  refine lv_iload hx hb dl_616 (lv_at hl 5 rfl) ?_
  refine lv_iconst (v := 1) hx hb dl_618 (by decide) ?_
  refine lv_iadd hx hb dl_619 ?_
  refine va_sld hx hb hX hbl hbA hw.1.2.2.2.1 (hin 1 (by decide) (by decide)) dl_620 ?_
  refine lv_aload_n hx hb dl_621 rfl (lv_at hl 1 rfl) ?_
  refine lv_iload hx hb dl_622 (lv_at hl 5 rfl) ?_
  refine lv_iconst (v := 2) hx hb dl_624 (by decide) ?_
  refine lv_iadd hx hb dl_625 ?_
  refine va_sld hx hb hX hbl hbA hw.1.2.2.2.1 (hin 2 (by decide) (by decide)) dl_626 ?_
  refine hl_calliM hw (hm_runV (rest := []) hCl_true X hw.2.1 (cM_about h) ykM_about kw1705 rfl LM_0 rfl hl.1 rfl rfl rfl (Nat.le_of_ble_eq_true rfl) ⟨by decide, by decide⟩ ⟨by omega, by omega⟩ dl_627) (fun rb u H locs hp hw => ?_)
  obtain ⟨IM2, rfl, h⟩ := hp
  refine lv_istore (lv' := [(6, _), (5, _), (0, _), (1, _), (2, _), (3, _), (4, _)]) hx hb dl_630 hl (by decide) rfl (fun ls hl => ?_)
  refine lv_aload_n hx hb dl_632 rfl (lv_at hl 4 rfl) ?_
  refine hl_calliM hw (hm_runV (rest := []) hCl_true X hw.2.1 (cM_thrown h) ykM_thrown kw1575 rfl LM_0 rfl hl.1 rfl rfl rfl (Nat.le_of_ble_eq_true rfl) ⟨by decide, by decide⟩ ⟨by omega, by omega⟩ dl_633) (fun rt u H locs hp hw => ?_)
  obtain ⟨rfl, h⟩ := hp
  refine lv_iload hx hb dl_636 (lv_at hl 1 rfl) ?_
  refine lv_icmp_eq (tgt := 643) hx hb dl_638 (by decide) (fun hc => ?_) (fun hc => ?_)
  rotate_left
  · exact absurd h.1 hc
  have h := h.2
  refine lv_iload hx hb dl_643 (lv_at hl 1 rfl) ?_
  refine lv_if_ne (tgt := 660) hx hb dl_645 (by decide) (fun hc => ?_) (fun hc => ?_)
  · have h := h.2
    refine lv_goto (tgt := 1771) hx hb dl_660 (by decide) ?_
    refine W.widen (k := cl + 90) (n := sl + 9000) (by omega) (by omega) ?_
    exact hK _ _ _ h hw (lv_sub hl [2, 3, 4, 5, 6] rfl)
  have hj := h.1 hc
  have h := h.2
  refine lv_aload_n hx hb dl_648 rfl (lv_at hl 5 rfl) ?_
  refine lv_iconst (v := 0) hx hb dl_649 (by decide) ?_
  refine hm_lald X hw.1 ho (by unfold vp_in; decide) dl_650 ?_
  refine lv_iload hx hb dl_651 (lv_at hl 0 rfl) ?_
  refine lv_i2l (v := Int32.toInt64 rb) hx hb dl_653 rfl ?_
  refine W.lcmp hx hb dl_654 ?_
  refine lv_if_eq (tgt := 660) hx hb dl_655 (by decide) (fun hc => ?_) (fun hc => ?_)
  rotate_left
  · exact absurd (hl_cmp_eq hj) hc
  refine lv_goto (tgt := 1771) hx hb dl_660 (by decide) ?_
  refine W.widen (k := cl + 90) (n := sl + 9000) (by omega) (by omega) ?_
  exact hK _ _ _ h hw (lv_sub hl [2, 3, 4, 5, 6] rfl)
theorem wl_tell {p : Program} {l : Launch} {e : Env} {s : State} {m : MethodId} {below : List Frame} {meth : Method} {c : Code} {H : Heap} {locs : List Loc} {cl sl : Nat} {Qz : State → Prop} {ls : Array Slot} {D : va_G} {cA : Nat → ClassId} {zC zM ro b Ln : Nat} {xs : Nat → Int32} {i : Int32} {I : HI} {J : HJ} {T F TM : HR} {L : HL} {IM : HI} {JM : HJ} {A : Nat → Prop} {K : HS → HI → HJ → Prop} (hx : p.tables.exec = Jvm.exec) (hb : c.code = code) (X : hX p m c s #[Value.ref b] R_law code 8) (hlt : l.stackTraces = false) (hX : va_X b Ln xs s s.heap) (hbl : b < s.heap.size) (hbA : ¬ A b) (hin : ∀ j : Int32, j < 6 → ¬ j < 0 → vp_in (i + j) Ln) (hG : Geo F L) (ho : (ro, 4, 1) ∈ L) (hc1 : cl + 90 ≤ room_1.cells) (hs1 : sl + 9000 ≤ room_1.slots) (hK : ∀ (SC : HS) (IM : HI) (JM : HJ) {ls : Array Slot} {H : Heap} {locs : List Loc}, K SC IM JM → hW2 D cA zC zM SC (IM, JM, TM, FM, LM) A s H locs → lv_has ls 8 [(0, .ref b), (1, .ref (zC + 0)), (2, .ref (zM + 0)), (3, .ref (zC + ro)), (4, .int i)] → W p l e room_1 s m #[Value.ref b] below meth c H locs (cl + 90) (sl + 9000) Qz (F0 m 1771 ls [])) (hw : hW2 D cA zC zM (I, J, T, F, L) (IM, JM, TM, FM, LM) A s H locs) (hl : lv_has ls 8 [(0, .ref b), (1, .ref (zC + 0)), (2, .ref (zM + 0)), (3, .ref (zC + ro)), (4, .int i)]) (h : St_tell (xs (nx (i + 1))) (xs (nx (i + 2))) (xs (nx (i + 3))) I J T F L ro IM JM K) : W p l e room_1 s m #[Value.ref b] below meth c H locs cl sl Qz (F0 m 663 ls []) := by
  unfold St_tell at h
  refine lv_aload_n hx hb dl_663 rfl (lv_at hl 1 rfl) ?_
  refine lv_aload_n hx hb dl_664 rfl (lv_at hl 0 rfl) ?_
  refine lv_iload hx hb dl_665 (lv_at hl 4 rfl) ?_
  refine lv_iconst (v := 1) hx hb dl_667 (by decide) ?_
  refine lv_iadd hx hb dl_668 ?_
  refine va_sld hx hb hX hbl hbA hw.1.2.2.2.1 (hin 1 (by decide) (by decide)) dl_669 ?_
  refine lv_aload_n hx hb dl_670 rfl (lv_at hl 0 rfl) ?_
  refine lv_iload hx hb dl_671 (lv_at hl 4 rfl) ?_
  refine lv_iconst (v := 2) hx hb dl_673 (by decide) ?_
  refine lv_iadd hx hb dl_674 ?_
  refine va_sld hx hb hX hbl hbA hw.1.2.2.2.1 (hin 2 (by decide) (by decide)) dl_675 ?_
  refine lv_aload_n hx hb dl_676 rfl (lv_at hl 0 rfl) ?_
  refine lv_iload hx hb dl_677 (lv_at hl 4 rfl) ?_
  refine lv_iconst (v := 3) hx hb dl_679 (by decide) ?_
  refine lv_iadd hx hb dl_680 ?_
  refine va_sld hx hb hX hbl hbA hw.1.2.2.2.1 (hin 3 (by decide) (by decide)) dl_681 ?_
  refine lv_aload_n hx hb dl_682 rfl (lv_at hl 3 rfl) ?_
  refine hl_calliC hw (hm_runSW (rest := []) EvC_cl X hw.1 (kL_tell hlt hG ho h) yw_tell kw1045 rfl hl.1 rfl rfl rfl (Nat.le_of_ble_eq_true rfl) ⟨by decide, by decide⟩ ⟨by omega, by omega⟩ dl_683) (fun rk u H locs hp hw => ?_)
  obtain ⟨I2, J2, T2, F2, L2⟩ := u
  obtain ⟨ho, h⟩ := hp
  replace ho : (ro, 4, 1) ∈ L2 := ho
  refine lv_istore (lv' := [(5, _), (0, _), (1, _), (2, _), (3, _), (4, _)]) hx hb dl_686 hl (by decide) rfl (fun ls hl => ?_)
  refine lv_aload_n hx hb dl_688 rfl (lv_at hl 3 rfl) ?_
  refine lv_aload_n hx hb dl_689 rfl (lv_at hl 1 rfl) ?_
  refine lv_iload hx hb dl_690 (lv_at hl 5 rfl) ?_
  refine lv_iconst (v := 1) hx hb dl_692 (by decide) ?_
  refine lv_iadd hx hb dl_693 ?_
  refine va_sld hx hb hX hbl hbA hw.1.2.2.2.1 (hin 1 (by decide) (by decide)) dl_694 ?_
  refine lv_aload_n hx hb dl_695 rfl (lv_at hl 1 rfl) ?_
  refine lv_iload hx hb dl_696 (lv_at hl 5 rfl) ?_
  refine lv_iconst (v := 2) hx hb dl_698 (by decide) ?_
  refine lv_iadd hx hb dl_699 ?_
  refine va_sld hx hb hX hbl hbA hw.1.2.2.2.1 (hin 2 (by decide) (by decide)) dl_700 ?_
  refine lv_aload_n hx hb dl_701 rfl (lv_at hl 1 rfl) ?_
  refine lv_iload hx hb dl_702 (lv_at hl 5 rfl) ?_
  refine lv_iconst (v := 3) hx hb dl_704 (by decide) ?_
  refine lv_iadd hx hb dl_705 ?_
  refine va_sld hx hb hX hbl hbA hw.1.2.2.2.1 (hin 3 (by decide) (by decide)) dl_706 ?_
  refine hl_calliM hw (hm_runV (rest := []) hCl_true X hw.2.1 (cM_tell h) ykM_tell kw1709 rfl LM_0 rfl hl.1 rfl rfl rfl (Nat.le_of_ble_eq_true rfl) ⟨by decide, by decide⟩ ⟨by omega, by omega⟩ dl_707) (fun rb u H locs hp hw => ?_)
  obtain ⟨IM2, rfl, h⟩ := hp
  refine lv_istore (lv' := [(6, _), (5, _), (0, _), (1, _), (2, _), (3, _), (4, _)]) hx hb dl_710 hl (by decide) rfl (fun ls hl => ?_)
  refine lv_aload_n hx hb dl_712 rfl (lv_at hl 4 rfl) ?_
  refine hl_calliM hw (hm_runV (rest := []) hCl_true X hw.2.1 (cM_thrown h) ykM_thrown kw1575 rfl LM_0 rfl hl.1 rfl rfl rfl (Nat.le_of_ble_eq_true rfl) ⟨by decide, by decide⟩ ⟨by omega, by omega⟩ dl_713) (fun rt u H locs hp hw => ?_)
  obtain ⟨rfl, h⟩ := hp
  refine lv_iload hx hb dl_716 (lv_at hl 1 rfl) ?_
  refine lv_icmp_eq (tgt := 723) hx hb dl_718 (by decide) (fun hc => ?_) (fun hc => ?_)
  rotate_left
  · exact absurd h.1 hc
  have h := h.2
  refine lv_iload hx hb dl_723 (lv_at hl 1 rfl) ?_
  refine lv_if_ne (tgt := 747) hx hb dl_725 (by decide) (fun hc => ?_) (fun hc => ?_)
  · have h := h.2
    refine lv_goto (tgt := 1771) hx hb dl_747 (by decide) ?_
    refine W.widen (k := cl + 90) (n := sl + 9000) (by omega) (by omega) ?_
    exact hK _ _ _ h hw (lv_sub hl [2, 3, 4, 5, 6] rfl)
  have hj := h.1 hc
  have h := h.2
  refine lv_aload_n hx hb dl_728 rfl (lv_at hl 5 rfl) ?_
  refine lv_iconst (v := 0) hx hb dl_729 (by decide) ?_
  refine hm_lald X hw.1 ho (by unfold vp_in; decide) dl_730 ?_
  refine lv_iload hx hb dl_731 (lv_at hl 0 rfl) ?_
  refine lv_if_eq (tgt := 740) hx hb dl_733 (by decide) (fun hc => ?_) (fun hc => ?_)
  · rw [if_pos hc] at hj
    refine lv_lconst (v := 0) hx hb dl_740 (by decide) ?_
    refine W.lcmp hx hb dl_741 ?_
    refine lv_if_eq (tgt := 747) hx hb dl_742 (by decide) (fun hc => ?_) (fun hc => ?_)
    rotate_left
    · exact absurd (hl_cmp_eq hj) hc
    refine lv_goto (tgt := 1771) hx hb dl_747 (by decide) ?_
    refine W.widen (k := cl + 90) (n := sl + 9000) (by omega) (by omega) ?_
    exact hK _ _ _ h hw (lv_sub hl [2, 3, 4, 5, 6] rfl)
  rw [if_neg hc] at hj
  refine lv_lconst (v := 1) hx hb dl_736 (by decide) ?_
  refine lv_goto (tgt := 741) hx hb dl_737 (by decide) ?_
  refine W.lcmp hx hb dl_741 ?_
  refine lv_if_eq (tgt := 747) hx hb dl_742 (by decide) (fun hc => ?_) (fun hc => ?_)
  rotate_left
  · exact absurd (hl_cmp_eq hj) hc
  refine lv_goto (tgt := 1771) hx hb dl_747 (by decide) ?_
  refine W.widen (k := cl + 90) (n := sl + 9000) (by omega) (by omega) ?_
  exact hK _ _ _ h hw (lv_sub hl [2, 3, 4, 5, 6] rfl)
theorem wl_cell {p : Program} {l : Launch} {e : Env} {s : State} {m : MethodId} {below : List Frame} {meth : Method} {c : Code} {H : Heap} {locs : List Loc} {cl sl : Nat} {Qz : State → Prop} {ls : Array Slot} {D : va_G} {cA : Nat → ClassId} {zC zM ro b Ln : Nat} {xs : Nat → Int32} {i : Int32} {I : HI} {J : HJ} {T F TM : HR} {L : HL} {IM : HI} {JM : HJ} {A : Nat → Prop} {K : HS → HI → HJ → Prop} (hx : p.tables.exec = Jvm.exec) (hb : c.code = code) (X : hX p m c s #[Value.ref b] R_law code 8) (hlt : l.stackTraces = false) (hX : va_X b Ln xs s s.heap) (hbl : b < s.heap.size) (hbA : ¬ A b) (hin : ∀ j : Int32, j < 6 → ¬ j < 0 → vp_in (i + j) Ln) (hG : Geo F L) (ho : (ro, 4, 1) ∈ L) (hc1 : cl + 90 ≤ room_1.cells) (hs1 : sl + 9000 ≤ room_1.slots) (hK : ∀ (SC : HS) (IM : HI) (JM : HJ) {ls : Array Slot} {H : Heap} {locs : List Loc}, K SC IM JM → hW2 D cA zC zM SC (IM, JM, TM, FM, LM) A s H locs → lv_has ls 8 [(0, .ref b), (1, .ref (zC + 0)), (2, .ref (zM + 0)), (3, .ref (zC + ro)), (4, .int i)] → W p l e room_1 s m #[Value.ref b] below meth c H locs (cl + 90) (sl + 9000) Qz (F0 m 1771 ls [])) (hw : hW2 D cA zC zM (I, J, T, F, L) (IM, JM, TM, FM, LM) A s H locs) (hl : lv_has ls 8 [(0, .ref b), (1, .ref (zC + 0)), (2, .ref (zM + 0)), (3, .ref (zC + ro)), (4, .int i)]) (h : St_cell (xs (nx (i + 1))) (xs (nx (i + 2))) I J T F L ro IM JM K) : W p l e room_1 s m #[Value.ref b] below meth c H locs cl sl Qz (F0 m 750 ls []) := by
  unfold St_cell at h
  refine lv_aload_n hx hb dl_750 rfl (lv_at hl 1 rfl) ?_
  refine lv_aload_n hx hb dl_751 rfl (lv_at hl 0 rfl) ?_
  refine lv_iload hx hb dl_752 (lv_at hl 4 rfl) ?_
  refine lv_iconst (v := 1) hx hb dl_754 (by decide) ?_
  refine lv_iadd hx hb dl_755 ?_
  refine va_sld hx hb hX hbl hbA hw.1.2.2.2.1 (hin 1 (by decide) (by decide)) dl_756 ?_
  refine lv_aload_n hx hb dl_757 rfl (lv_at hl 0 rfl) ?_
  refine lv_iload hx hb dl_758 (lv_at hl 4 rfl) ?_
  refine lv_iconst (v := 2) hx hb dl_760 (by decide) ?_
  refine lv_iadd hx hb dl_761 ?_
  refine va_sld hx hb hX hbl hbA hw.1.2.2.2.1 (hin 2 (by decide) (by decide)) dl_762 ?_
  refine lv_aload_n hx hb dl_763 rfl (lv_at hl 3 rfl) ?_
  refine hl_calliC hw (hm_runSW (rest := []) EvC_cl X hw.1 (kL_cell hlt hG ho h) yw_cell kw1054 rfl hl.1 rfl rfl rfl (Nat.le_of_ble_eq_true rfl) ⟨by decide, by decide⟩ ⟨by omega, by omega⟩ dl_764) (fun rk u H locs hp hw => ?_)
  obtain ⟨I2, J2, T2, F2, L2⟩ := u
  obtain ⟨ho, h⟩ := hp
  replace ho : (ro, 4, 1) ∈ L2 := ho
  refine lv_istore (lv' := [(5, _), (0, _), (1, _), (2, _), (3, _), (4, _)]) hx hb dl_767 hl (by decide) rfl (fun ls hl => ?_)
  refine lv_aload_n hx hb dl_769 rfl (lv_at hl 3 rfl) ?_
  refine lv_aload_n hx hb dl_770 rfl (lv_at hl 1 rfl) ?_
  refine lv_iload hx hb dl_771 (lv_at hl 5 rfl) ?_
  refine lv_iconst (v := 1) hx hb dl_773 (by decide) ?_
  refine lv_iadd hx hb dl_774 ?_
  refine va_sld hx hb hX hbl hbA hw.1.2.2.2.1 (hin 1 (by decide) (by decide)) dl_775 ?_
  refine lv_aload_n hx hb dl_776 rfl (lv_at hl 1 rfl) ?_
  refine lv_iload hx hb dl_777 (lv_at hl 5 rfl) ?_
  refine lv_iconst (v := 2) hx hb dl_779 (by decide) ?_
  refine lv_iadd hx hb dl_780 ?_
  refine va_sld hx hb hX hbl hbA hw.1.2.2.2.1 (hin 2 (by decide) (by decide)) dl_781 ?_
  refine hl_calliM hw (hm_runV (rest := []) hCl_true X hw.2.1 (cM_cell h) ykM_cell kw1713 rfl LM_0 rfl hl.1 rfl rfl rfl (Nat.le_of_ble_eq_true rfl) ⟨by decide, by decide⟩ ⟨by omega, by omega⟩ dl_782) (fun rb u H locs hp hw => ?_)
  obtain ⟨IM2, rfl, h⟩ := hp
  refine lv_istore (lv' := [(6, _), (5, _), (0, _), (1, _), (2, _), (3, _), (4, _)]) hx hb dl_785 hl (by decide) rfl (fun ls hl => ?_)
  refine lv_aload_n hx hb dl_787 rfl (lv_at hl 4 rfl) ?_
  refine hl_calliM hw (hm_runV (rest := []) hCl_true X hw.2.1 (cM_thrown h) ykM_thrown kw1575 rfl LM_0 rfl hl.1 rfl rfl rfl (Nat.le_of_ble_eq_true rfl) ⟨by decide, by decide⟩ ⟨by omega, by omega⟩ dl_788) (fun rt u H locs hp hw => ?_)
  obtain ⟨rfl, h⟩ := hp
  refine lv_iload hx hb dl_791 (lv_at hl 1 rfl) ?_
  refine lv_icmp_eq (tgt := 798) hx hb dl_793 (by decide) (fun hc => ?_) (fun hc => ?_)
  rotate_left
  · exact absurd h.1 hc
  have h := h.2
  refine lv_iload hx hb dl_798 (lv_at hl 1 rfl) ?_
  refine lv_if_ne (tgt := 815) hx hb dl_800 (by decide) (fun hc => ?_) (fun hc => ?_)
  · have h := h.2
    refine lv_goto (tgt := 1771) hx hb dl_815 (by decide) ?_
    refine W.widen (k := cl + 90) (n := sl + 9000) (by omega) (by omega) ?_
    exact hK _ _ _ h hw (lv_sub hl [2, 3, 4, 5, 6] rfl)
  have hj := h.1 hc
  have h := h.2
  refine lv_aload_n hx hb dl_803 rfl (lv_at hl 5 rfl) ?_
  refine lv_iconst (v := 0) hx hb dl_804 (by decide) ?_
  refine hm_lald X hw.1 ho (by unfold vp_in; decide) dl_805 ?_
  refine lv_iload hx hb dl_806 (lv_at hl 0 rfl) ?_
  refine lv_i2l (v := Int32.toInt64 rb) hx hb dl_808 rfl ?_
  refine W.lcmp hx hb dl_809 ?_
  refine lv_if_eq (tgt := 815) hx hb dl_810 (by decide) (fun hc => ?_) (fun hc => ?_)
  rotate_left
  · exact absurd (hl_cmp_eq hj) hc
  refine lv_goto (tgt := 1771) hx hb dl_815 (by decide) ?_
  refine W.widen (k := cl + 90) (n := sl + 9000) (by omega) (by omega) ?_
  exact hK _ _ _ h hw (lv_sub hl [2, 3, 4, 5, 6] rfl)
theorem wl_in {p : Program} {l : Launch} {e : Env} {s : State} {m : MethodId} {below : List Frame} {meth : Method} {c : Code} {H : Heap} {locs : List Loc} {cl sl : Nat} {Qz : State → Prop} {ls : Array Slot} {D : va_G} {cA : Nat → ClassId} {zC zM ro b Ln : Nat} {xs : Nat → Int32} {i : Int32} {I : HI} {J : HJ} {T F TM : HR} {L : HL} {IM : HI} {JM : HJ} {A : Nat → Prop} {K : HS → HI → HJ → Prop} (hx : p.tables.exec = Jvm.exec) (hb : c.code = code) (X : hX p m c s #[Value.ref b] R_law code 8) (hlt : l.stackTraces = false) (hX : va_X b Ln xs s s.heap) (hbl : b < s.heap.size) (hbA : ¬ A b) (hin : ∀ j : Int32, j < 6 → ¬ j < 0 → vp_in (i + j) Ln) (hG : Geo F L) (ho : (ro, 4, 1) ∈ L) (hc1 : cl + 90 ≤ room_1.cells) (hs1 : sl + 9000 ≤ room_1.slots) (hK : ∀ (SC : HS) (IM : HI) (JM : HJ) {ls : Array Slot} {H : Heap} {locs : List Loc}, K SC IM JM → hW2 D cA zC zM SC (IM, JM, TM, FM, LM) A s H locs → lv_has ls 8 [(0, .ref b), (1, .ref (zC + 0)), (2, .ref (zM + 0)), (3, .ref (zC + ro)), (4, .int i)] → W p l e room_1 s m #[Value.ref b] below meth c H locs (cl + 90) (sl + 9000) Qz (F0 m 1771 ls [])) (hw : hW2 D cA zC zM (I, J, T, F, L) (IM, JM, TM, FM, LM) A s H locs) (hl : lv_has ls 8 [(0, .ref b), (1, .ref (zC + 0)), (2, .ref (zM + 0)), (3, .ref (zC + ro)), (4, .int i)]) (h : St_in (xs (nx (i + 1))) (xs (nx (i + 2))) (xs (nx (i + 3))) I J T F L ro IM JM K) : W p l e room_1 s m #[Value.ref b] below meth c H locs cl sl Qz (F0 m 818 ls []) := by
  unfold St_in at h
  refine lv_aload_n hx hb dl_818 rfl (lv_at hl 1 rfl) ?_
  refine lv_aload_n hx hb dl_819 rfl (lv_at hl 0 rfl) ?_
  refine lv_iload hx hb dl_820 (lv_at hl 4 rfl) ?_
  refine lv_iconst (v := 1) hx hb dl_822 (by decide) ?_
  refine lv_iadd hx hb dl_823 ?_
  refine va_sld hx hb hX hbl hbA hw.1.2.2.2.1 (hin 1 (by decide) (by decide)) dl_824 ?_
  refine lv_aload_n hx hb dl_825 rfl (lv_at hl 0 rfl) ?_
  refine lv_iload hx hb dl_826 (lv_at hl 4 rfl) ?_
  refine lv_iconst (v := 2) hx hb dl_828 (by decide) ?_
  refine lv_iadd hx hb dl_829 ?_
  refine va_sld hx hb hX hbl hbA hw.1.2.2.2.1 (hin 2 (by decide) (by decide)) dl_830 ?_
  refine lv_aload_n hx hb dl_831 rfl (lv_at hl 0 rfl) ?_
  refine lv_iload hx hb dl_832 (lv_at hl 4 rfl) ?_
  refine lv_iconst (v := 3) hx hb dl_834 (by decide) ?_
  refine lv_iadd hx hb dl_835 ?_
  refine va_sld hx hb hX hbl hbA hw.1.2.2.2.1 (hin 3 (by decide) (by decide)) dl_836 ?_
  refine lv_aload_n hx hb dl_837 rfl (lv_at hl 3 rfl) ?_
  refine hl_calliC hw (hm_runSW (rest := []) EvC_cl X hw.1 (kL_in hlt hG ho h) yw_in kw1064 rfl hl.1 rfl rfl rfl (Nat.le_of_ble_eq_true rfl) ⟨by decide, by decide⟩ ⟨by omega, by omega⟩ dl_838) (fun rk u H locs hp hw => ?_)
  obtain ⟨I2, J2, T2, F2, L2⟩ := u
  obtain ⟨ho, h⟩ := hp
  replace ho : (ro, 4, 1) ∈ L2 := ho
  refine lv_istore (lv' := [(5, _), (0, _), (1, _), (2, _), (3, _), (4, _)]) hx hb dl_841 hl (by decide) rfl (fun ls hl => ?_)
  refine lv_aload_n hx hb dl_843 rfl (lv_at hl 3 rfl) ?_
  refine lv_aload_n hx hb dl_844 rfl (lv_at hl 1 rfl) ?_
  refine lv_iload hx hb dl_845 (lv_at hl 5 rfl) ?_
  refine lv_iconst (v := 1) hx hb dl_847 (by decide) ?_
  refine lv_iadd hx hb dl_848 ?_
  refine va_sld hx hb hX hbl hbA hw.1.2.2.2.1 (hin 1 (by decide) (by decide)) dl_849 ?_
  refine lv_aload_n hx hb dl_850 rfl (lv_at hl 1 rfl) ?_
  refine lv_iload hx hb dl_851 (lv_at hl 5 rfl) ?_
  refine lv_iconst (v := 2) hx hb dl_853 (by decide) ?_
  refine lv_iadd hx hb dl_854 ?_
  refine va_sld hx hb hX hbl hbA hw.1.2.2.2.1 (hin 2 (by decide) (by decide)) dl_855 ?_
  refine lv_aload_n hx hb dl_856 rfl (lv_at hl 1 rfl) ?_
  refine lv_iload hx hb dl_857 (lv_at hl 5 rfl) ?_
  refine lv_iconst (v := 3) hx hb dl_859 (by decide) ?_
  refine lv_iadd hx hb dl_860 ?_
  refine va_sld hx hb hX hbl hbA hw.1.2.2.2.1 (hin 3 (by decide) (by decide)) dl_861 ?_
  refine hl_calliM hw (hm_runV (rest := []) hCl_true X hw.2.1 (cM_in h) ykM_in kw1717 rfl LM_0 rfl hl.1 rfl rfl rfl (Nat.le_of_ble_eq_true rfl) ⟨by decide, by decide⟩ ⟨by omega, by omega⟩ dl_862) (fun rb u H locs hp hw => ?_)
  obtain ⟨IM2, rfl, h⟩ := hp
  refine lv_istore (lv' := [(6, _), (5, _), (0, _), (1, _), (2, _), (3, _), (4, _)]) hx hb dl_865 hl (by decide) rfl (fun ls hl => ?_)
  refine lv_aload_n hx hb dl_867 rfl (lv_at hl 4 rfl) ?_
  refine hl_calliM hw (hm_runV (rest := []) hCl_true X hw.2.1 (cM_thrown h) ykM_thrown kw1575 rfl LM_0 rfl hl.1 rfl rfl rfl (Nat.le_of_ble_eq_true rfl) ⟨by decide, by decide⟩ ⟨by omega, by omega⟩ dl_868) (fun rt u H locs hp hw => ?_)
  obtain ⟨rfl, h⟩ := hp
  refine lv_iload hx hb dl_871 (lv_at hl 1 rfl) ?_
  refine lv_icmp_eq (tgt := 878) hx hb dl_873 (by decide) (fun hc => ?_) (fun hc => ?_)
  rotate_left
  · exact absurd h.1 hc
  have h := h.2
  refine lv_iload hx hb dl_878 (lv_at hl 1 rfl) ?_
  refine lv_if_ne (tgt := 895) hx hb dl_880 (by decide) (fun hc => ?_) (fun hc => ?_)
  · have h := h.2
    refine lv_goto (tgt := 1771) hx hb dl_895 (by decide) ?_
    refine W.widen (k := cl + 90) (n := sl + 9000) (by omega) (by omega) ?_
    exact hK _ _ _ h hw (lv_sub hl [2, 3, 4, 5, 6] rfl)
  have hj := h.1 hc
  have h := h.2
  refine lv_aload_n hx hb dl_883 rfl (lv_at hl 5 rfl) ?_
  refine lv_iconst (v := 0) hx hb dl_884 (by decide) ?_
  refine hm_lald X hw.1 ho (by unfold vp_in; decide) dl_885 ?_
  refine lv_iload hx hb dl_886 (lv_at hl 0 rfl) ?_
  refine lv_i2l (v := Int32.toInt64 rb) hx hb dl_888 rfl ?_
  refine W.lcmp hx hb dl_889 ?_
  refine lv_if_eq (tgt := 895) hx hb dl_890 (by decide) (fun hc => ?_) (fun hc => ?_)
  rotate_left
  · exact absurd (hl_cmp_eq hj) hc
  refine lv_goto (tgt := 1771) hx hb dl_895 (by decide) ?_
  refine W.widen (k := cl + 90) (n := sl + 9000) (by omega) (by omega) ?_
  exact hK _ _ _ h hw (lv_sub hl [2, 3, 4, 5, 6] rfl)
theorem wl_row {p : Program} {l : Launch} {e : Env} {s : State} {m : MethodId} {below : List Frame} {meth : Method} {c : Code} {H : Heap} {locs : List Loc} {cl sl : Nat} {Qz : State → Prop} {ls : Array Slot} {D : va_G} {cA : Nat → ClassId} {zC zM ro b Ln : Nat} {xs : Nat → Int32} {i : Int32} {I : HI} {J : HJ} {T F TM : HR} {L : HL} {IM : HI} {JM : HJ} {A : Nat → Prop} {K : HS → HI → HJ → Prop} (hx : p.tables.exec = Jvm.exec) (hb : c.code = code) (X : hX p m c s #[Value.ref b] R_law code 8) (hlt : l.stackTraces = false) (hX : va_X b Ln xs s s.heap) (hbl : b < s.heap.size) (hbA : ¬ A b) (hin : ∀ j : Int32, j < 6 → ¬ j < 0 → vp_in (i + j) Ln) (hG : Geo F L) (ho : (ro, 4, 1) ∈ L) (hc1 : cl + 90 ≤ room_1.cells) (hs1 : sl + 9000 ≤ room_1.slots) (hK : ∀ (SC : HS) (IM : HI) (JM : HJ) {ls : Array Slot} {H : Heap} {locs : List Loc}, K SC IM JM → hW2 D cA zC zM SC (IM, JM, TM, FM, LM) A s H locs → lv_has ls 8 [(0, .ref b), (1, .ref (zC + 0)), (2, .ref (zM + 0)), (3, .ref (zC + ro)), (4, .int i)] → W p l e room_1 s m #[Value.ref b] below meth c H locs (cl + 90) (sl + 9000) Qz (F0 m 1771 ls [])) (hw : hW2 D cA zC zM (I, J, T, F, L) (IM, JM, TM, FM, LM) A s H locs) (hl : lv_has ls 8 [(0, .ref b), (1, .ref (zC + 0)), (2, .ref (zM + 0)), (3, .ref (zC + ro)), (4, .int i)]) (h : St_row (xs (nx (i + 1))) (xs (nx (i + 2))) I J T F L ro IM JM K) : W p l e room_1 s m #[Value.ref b] below meth c H locs cl sl Qz (F0 m 898 ls []) := by
  unfold St_row at h
  refine lv_aload_n hx hb dl_898 rfl (lv_at hl 1 rfl) ?_
  refine lv_aload_n hx hb dl_899 rfl (lv_at hl 0 rfl) ?_
  refine lv_iload hx hb dl_900 (lv_at hl 4 rfl) ?_
  refine lv_iconst (v := 1) hx hb dl_902 (by decide) ?_
  refine lv_iadd hx hb dl_903 ?_
  refine va_sld hx hb hX hbl hbA hw.1.2.2.2.1 (hin 1 (by decide) (by decide)) dl_904 ?_
  refine lv_aload_n hx hb dl_905 rfl (lv_at hl 0 rfl) ?_
  refine lv_iload hx hb dl_906 (lv_at hl 4 rfl) ?_
  refine lv_iconst (v := 2) hx hb dl_908 (by decide) ?_
  refine lv_iadd hx hb dl_909 ?_
  refine va_sld hx hb hX hbl hbA hw.1.2.2.2.1 (hin 2 (by decide) (by decide)) dl_910 ?_
  refine lv_aload_n hx hb dl_911 rfl (lv_at hl 3 rfl) ?_
  refine hl_calliC hw (hm_runSW (rest := []) EvC_cl X hw.1 (kL_row hlt hG ho h) yw_row kw1084 rfl hl.1 rfl rfl rfl (Nat.le_of_ble_eq_true rfl) ⟨by decide, by decide⟩ ⟨by omega, by omega⟩ dl_912) (fun rk u H locs hp hw => ?_)
  obtain ⟨I2, J2, T2, F2, L2⟩ := u
  obtain ⟨ho, h⟩ := hp
  replace ho : (ro, 4, 1) ∈ L2 := ho
  refine lv_istore (lv' := [(5, _), (0, _), (1, _), (2, _), (3, _), (4, _)]) hx hb dl_915 hl (by decide) rfl (fun ls hl => ?_)
  refine lv_aload_n hx hb dl_917 rfl (lv_at hl 3 rfl) ?_
  refine lv_aload_n hx hb dl_918 rfl (lv_at hl 1 rfl) ?_
  refine lv_iload hx hb dl_919 (lv_at hl 5 rfl) ?_
  refine lv_iconst (v := 1) hx hb dl_921 (by decide) ?_
  refine lv_iadd hx hb dl_922 ?_
  refine va_sld hx hb hX hbl hbA hw.1.2.2.2.1 (hin 1 (by decide) (by decide)) dl_923 ?_
  refine lv_aload_n hx hb dl_924 rfl (lv_at hl 1 rfl) ?_
  refine lv_iload hx hb dl_925 (lv_at hl 5 rfl) ?_
  refine lv_iconst (v := 2) hx hb dl_927 (by decide) ?_
  refine lv_iadd hx hb dl_928 ?_
  refine va_sld hx hb hX hbl hbA hw.1.2.2.2.1 (hin 2 (by decide) (by decide)) dl_929 ?_
  refine hl_calliM hw (hm_runV (rest := []) hCl_true X hw.2.1 (cM_row h) ykM_row kw1760 rfl LM_0 rfl hl.1 rfl rfl rfl (Nat.le_of_ble_eq_true rfl) ⟨by decide, by decide⟩ ⟨by omega, by omega⟩ dl_930) (fun rb u H locs hp hw => ?_)
  obtain ⟨IM2, rfl, h⟩ := hp
  refine lv_istore (lv' := [(6, _), (5, _), (0, _), (1, _), (2, _), (3, _), (4, _)]) hx hb dl_933 hl (by decide) rfl (fun ls hl => ?_)
  refine lv_aload_n hx hb dl_935 rfl (lv_at hl 4 rfl) ?_
  refine hl_calliM hw (hm_runV (rest := []) hCl_true X hw.2.1 (cM_thrown h) ykM_thrown kw1575 rfl LM_0 rfl hl.1 rfl rfl rfl (Nat.le_of_ble_eq_true rfl) ⟨by decide, by decide⟩ ⟨by omega, by omega⟩ dl_936) (fun rt u H locs hp hw => ?_)
  obtain ⟨rfl, h⟩ := hp
  refine lv_iload hx hb dl_939 (lv_at hl 1 rfl) ?_
  refine lv_icmp_eq (tgt := 946) hx hb dl_941 (by decide) (fun hc => ?_) (fun hc => ?_)
  rotate_left
  · exact absurd h.1 hc
  have h := h.2
  refine lv_iload hx hb dl_946 (lv_at hl 1 rfl) ?_
  refine lv_if_ne (tgt := 963) hx hb dl_948 (by decide) (fun hc => ?_) (fun hc => ?_)
  · have h := h.2
    refine lv_goto (tgt := 1771) hx hb dl_963 (by decide) ?_
    refine W.widen (k := cl + 90) (n := sl + 9000) (by omega) (by omega) ?_
    exact hK _ _ _ h hw (lv_sub hl [2, 3, 4, 5, 6] rfl)
  have hj := h.1 hc
  have h := h.2
  refine lv_aload_n hx hb dl_951 rfl (lv_at hl 5 rfl) ?_
  refine lv_iconst (v := 0) hx hb dl_952 (by decide) ?_
  refine hm_lald X hw.1 ho (by unfold vp_in; decide) dl_953 ?_
  refine lv_iload hx hb dl_954 (lv_at hl 0 rfl) ?_
  refine lv_i2l (v := Int32.toInt64 rb) hx hb dl_956 rfl ?_
  refine W.lcmp hx hb dl_957 ?_
  refine lv_if_eq (tgt := 963) hx hb dl_958 (by decide) (fun hc => ?_) (fun hc => ?_)
  rotate_left
  · exact absurd (hl_cmp_eq hj) hc
  refine lv_goto (tgt := 1771) hx hb dl_963 (by decide) ?_
  refine W.widen (k := cl + 90) (n := sl + 9000) (by omega) (by omega) ?_
  exact hK _ _ _ h hw (lv_sub hl [2, 3, 4, 5, 6] rfl)
theorem wl_won {p : Program} {l : Launch} {e : Env} {s : State} {m : MethodId} {below : List Frame} {meth : Method} {c : Code} {H : Heap} {locs : List Loc} {cl sl : Nat} {Qz : State → Prop} {ls : Array Slot} {D : va_G} {cA : Nat → ClassId} {zC zM ro b Ln : Nat} {xs : Nat → Int32} {i : Int32} {I : HI} {J : HJ} {T F TM : HR} {L : HL} {IM : HI} {JM : HJ} {A : Nat → Prop} {K : HS → HI → HJ → Prop} (hx : p.tables.exec = Jvm.exec) (hb : c.code = code) (X : hX p m c s #[Value.ref b] R_law code 8) (hlt : l.stackTraces = false) (hX : va_X b Ln xs s s.heap) (hbl : b < s.heap.size) (hbA : ¬ A b) (hin : ∀ j : Int32, j < 6 → ¬ j < 0 → vp_in (i + j) Ln) (hG : Geo F L) (ho : (ro, 4, 1) ∈ L) (hc1 : cl + 90 ≤ room_1.cells) (hs1 : sl + 9000 ≤ room_1.slots) (hK : ∀ (SC : HS) (IM : HI) (JM : HJ) {ls : Array Slot} {H : Heap} {locs : List Loc}, K SC IM JM → hW2 D cA zC zM SC (IM, JM, TM, FM, LM) A s H locs → lv_has ls 8 [(0, .ref b), (1, .ref (zC + 0)), (2, .ref (zM + 0)), (3, .ref (zC + ro)), (4, .int i)] → W p l e room_1 s m #[Value.ref b] below meth c H locs (cl + 90) (sl + 9000) Qz (F0 m 1771 ls [])) (hw : hW2 D cA zC zM (I, J, T, F, L) (IM, JM, TM, FM, LM) A s H locs) (hl : lv_has ls 8 [(0, .ref b), (1, .ref (zC + 0)), (2, .ref (zM + 0)), (3, .ref (zC + ro)), (4, .int i)]) (h : St_won (xs (nx (i + 1))) I J T F L ro IM JM K) : W p l e room_1 s m #[Value.ref b] below meth c H locs cl sl Qz (F0 m 966 ls []) := by
  unfold St_won at h
  refine lv_aload_n hx hb dl_966 rfl (lv_at hl 1 rfl) ?_
  refine lv_aload_n hx hb dl_967 rfl (lv_at hl 0 rfl) ?_
  refine lv_iload hx hb dl_968 (lv_at hl 4 rfl) ?_
  refine lv_iconst (v := 1) hx hb dl_970 (by decide) ?_
  refine lv_iadd hx hb dl_971 ?_
  refine va_sld hx hb hX hbl hbA hw.1.2.2.2.1 (hin 1 (by decide) (by decide)) dl_972 ?_
  refine lv_aload_n hx hb dl_973 rfl (lv_at hl 3 rfl) ?_
  refine hl_calliC hw (hm_runSW (rest := []) EvC_cl X hw.1 (kL_won hlt hG ho h) yw_won kw1096 rfl hl.1 rfl rfl rfl (Nat.le_of_ble_eq_true rfl) ⟨by decide, by decide⟩ ⟨by omega, by omega⟩ dl_974) (fun rk u H locs hp hw => ?_)
  obtain ⟨I2, J2, T2, F2, L2⟩ := u
  obtain ⟨ho, h⟩ := hp
  replace ho : (ro, 4, 1) ∈ L2 := ho
  refine lv_istore (lv' := [(5, _), (0, _), (1, _), (2, _), (3, _), (4, _)]) hx hb dl_977 hl (by decide) rfl (fun ls hl => ?_)
  refine lv_aload_n hx hb dl_979 rfl (lv_at hl 3 rfl) ?_
  refine lv_aload_n hx hb dl_980 rfl (lv_at hl 1 rfl) ?_
  refine lv_iload hx hb dl_981 (lv_at hl 5 rfl) ?_
  refine lv_iconst (v := 1) hx hb dl_983 (by decide) ?_
  refine lv_iadd hx hb dl_984 ?_
  refine va_sld hx hb hX hbl hbA hw.1.2.2.2.1 (hin 1 (by decide) (by decide)) dl_985 ?_
  refine hl_calllM hw (hm_runV (rest := []) hCl_true X hw.2.1 (cM_won h) ykM_won kw1776 rfl LM_0 rfl hl.1 rfl rfl rfl (Nat.le_of_ble_eq_true rfl) ⟨by decide, by decide⟩ ⟨by omega, by omega⟩ dl_986) (fun rb u H locs hp hw => ?_)
  obtain ⟨IM2, rfl, h⟩ := hp
  refine lv_lstore (lv' := [(6, _), (5, _), (0, _), (1, _), (2, _), (3, _), (4, _)]) hx hb dl_989 hl (by decide) rfl (fun ls hl => ?_)
  refine lv_aload_n hx hb dl_991 rfl (lv_at hl 4 rfl) ?_
  refine hl_calliM hw (hm_runV (rest := []) hCl_true X hw.2.1 (cM_thrown h) ykM_thrown kw1575 rfl LM_0 rfl hl.1 rfl rfl rfl (Nat.le_of_ble_eq_true rfl) ⟨by decide, by decide⟩ ⟨by omega, by omega⟩ dl_992) (fun rt u H locs hp hw => ?_)
  obtain ⟨rfl, h⟩ := hp
  refine lv_iload hx hb dl_995 (lv_at hl 1 rfl) ?_
  refine lv_icmp_eq (tgt := 1002) hx hb dl_997 (by decide) (fun hc => ?_) (fun hc => ?_)
  rotate_left
  · exact absurd h.1 hc
  have h := h.2
  refine lv_iload hx hb dl_1002 (lv_at hl 1 rfl) ?_
  refine lv_if_ne (tgt := 1018) hx hb dl_1004 (by decide) (fun hc => ?_) (fun hc => ?_)
  · have h := h.2
    refine lv_goto (tgt := 1771) hx hb dl_1018 (by decide) ?_
    refine W.widen (k := cl + 90) (n := sl + 9000) (by omega) (by omega) ?_
    exact hK _ _ _ h hw (lv_sub hl [2, 3, 4, 5, 6] rfl)
  have hj := h.1 hc
  have h := h.2
  refine lv_aload_n hx hb dl_1007 rfl (lv_at hl 5 rfl) ?_
  refine lv_iconst (v := 0) hx hb dl_1008 (by decide) ?_
  refine hm_lald X hw.1 ho (by unfold vp_in; decide) dl_1009 ?_
  refine lv_lload hx hb dl_1010 (lv_at hl 0 rfl) ?_
  refine W.lcmp hx hb dl_1012 ?_
  refine lv_if_eq (tgt := 1018) hx hb dl_1013 (by decide) (fun hc => ?_) (fun hc => ?_)
  rotate_left
  · exact absurd (hl_cmp_eq hj) hc
  refine lv_goto (tgt := 1771) hx hb dl_1018 (by decide) ?_
  refine W.widen (k := cl + 90) (n := sl + 9000) (by omega) (by omega) ?_
  exact hK _ _ _ h hw (lv_sub hl [2, 3, 4, 5, 6] rfl)
theorem wl_beaten {p : Program} {l : Launch} {e : Env} {s : State} {m : MethodId} {below : List Frame} {meth : Method} {c : Code} {H : Heap} {locs : List Loc} {cl sl : Nat} {Qz : State → Prop} {ls : Array Slot} {D : va_G} {cA : Nat → ClassId} {zC zM ro b Ln : Nat} {xs : Nat → Int32} {i : Int32} {I : HI} {J : HJ} {T F TM : HR} {L : HL} {IM : HI} {JM : HJ} {A : Nat → Prop} {K : HS → HI → HJ → Prop} (hx : p.tables.exec = Jvm.exec) (hb : c.code = code) (X : hX p m c s #[Value.ref b] R_law code 8) (hlt : l.stackTraces = false) (hX : va_X b Ln xs s s.heap) (hbl : b < s.heap.size) (hbA : ¬ A b) (hin : ∀ j : Int32, j < 6 → ¬ j < 0 → vp_in (i + j) Ln) (hG : Geo F L) (ho : (ro, 4, 1) ∈ L) (hc1 : cl + 90 ≤ room_1.cells) (hs1 : sl + 9000 ≤ room_1.slots) (hK : ∀ (SC : HS) (IM : HI) (JM : HJ) {ls : Array Slot} {H : Heap} {locs : List Loc}, K SC IM JM → hW2 D cA zC zM SC (IM, JM, TM, FM, LM) A s H locs → lv_has ls 8 [(0, .ref b), (1, .ref (zC + 0)), (2, .ref (zM + 0)), (3, .ref (zC + ro)), (4, .int i)] → W p l e room_1 s m #[Value.ref b] below meth c H locs (cl + 90) (sl + 9000) Qz (F0 m 1771 ls [])) (hw : hW2 D cA zC zM (I, J, T, F, L) (IM, JM, TM, FM, LM) A s H locs) (hl : lv_has ls 8 [(0, .ref b), (1, .ref (zC + 0)), (2, .ref (zM + 0)), (3, .ref (zC + ro)), (4, .int i)]) (h : St_beaten (xs (nx (i + 1))) I J T F L ro IM JM K) : W p l e room_1 s m #[Value.ref b] below meth c H locs cl sl Qz (F0 m 1021 ls []) := by
  unfold St_beaten at h
  refine lv_aload_n hx hb dl_1021 rfl (lv_at hl 1 rfl) ?_
  refine lv_aload_n hx hb dl_1022 rfl (lv_at hl 0 rfl) ?_
  refine lv_iload hx hb dl_1023 (lv_at hl 4 rfl) ?_
  refine lv_iconst (v := 1) hx hb dl_1025 (by decide) ?_
  refine lv_iadd hx hb dl_1026 ?_
  refine va_sld hx hb hX hbl hbA hw.1.2.2.2.1 (hin 1 (by decide) (by decide)) dl_1027 ?_
  refine hl_calliC hw (hm_runV (rest := []) EvC_cl X hw.1 (cH_beaten EvC_cl hG h) yk_X10_beaten kw539 rfl (gl_0 hG) rfl hl.1 rfl rfl rfl (Nat.le_of_ble_eq_true rfl) ⟨by decide, by decide⟩ ⟨by omega, by omega⟩ dl_1028) (fun ra u H locs hp hw => ?_)
  obtain ⟨I2, rfl, h⟩ := hp
  refine lv_aload_n hx hb dl_1031 rfl (lv_at hl 2 rfl) ?_
  refine lv_aload_n hx hb dl_1032 rfl (lv_at hl 0 rfl) ?_
  refine lv_iload hx hb dl_1033 (lv_at hl 4 rfl) ?_
  refine lv_iconst (v := 1) hx hb dl_1035 (by decide) ?_
  refine lv_iadd hx hb dl_1036 ?_
  refine va_sld hx hb hX hbl hbA hw.1.2.2.2.1 (hin 1 (by decide) (by decide)) dl_1037 ?_
  refine hl_calliM hw (hm_runV (rest := [_]) hCl_true X hw.2.1 (cM_beaten h) ykM_beaten kw1784 rfl LM_0 rfl hl.1 rfl rfl rfl (Nat.le_of_ble_eq_true rfl) ⟨by decide, by decide⟩ ⟨by omega, by omega⟩ dl_1038) (fun rb u H locs hp hw => ?_)
  obtain ⟨IM2, rfl, h⟩ := hp
  refine lv_icmp_eq (tgt := 1771) hx hb dl_1041 (by decide) (fun hc => ?_) (fun hc => ?_)
  · have h := h.2
    refine W.widen (k := cl + 90) (n := sl + 9000) (by omega) (by omega) ?_
    exact hK _ _ _ h hw (lv_sub hl [0, 1, 2, 3, 4] rfl)
  · exact absurd h.1 hc
theorem wl_tally {p : Program} {l : Launch} {e : Env} {s : State} {m : MethodId} {below : List Frame} {meth : Method} {c : Code} {H : Heap} {locs : List Loc} {cl sl : Nat} {Qz : State → Prop} {ls : Array Slot} {D : va_G} {cA : Nat → ClassId} {zC zM ro b Ln : Nat} {xs : Nat → Int32} {i : Int32} {I : HI} {J : HJ} {T F TM : HR} {L : HL} {IM : HI} {JM : HJ} {A : Nat → Prop} {K : HS → HI → HJ → Prop} (hx : p.tables.exec = Jvm.exec) (hb : c.code = code) (X : hX p m c s #[Value.ref b] R_law code 8) (hlt : l.stackTraces = false) (hX : va_X b Ln xs s s.heap) (hbl : b < s.heap.size) (hbA : ¬ A b) (hin : ∀ j : Int32, j < 6 → ¬ j < 0 → vp_in (i + j) Ln) (hG : Geo F L) (ho : (ro, 4, 1) ∈ L) (hc1 : cl + 90 ≤ room_1.cells) (hs1 : sl + 9000 ≤ room_1.slots) (hK : ∀ (SC : HS) (IM : HI) (JM : HJ) {ls : Array Slot} {H : Heap} {locs : List Loc}, K SC IM JM → hW2 D cA zC zM SC (IM, JM, TM, FM, LM) A s H locs → lv_has ls 8 [(0, .ref b), (1, .ref (zC + 0)), (2, .ref (zM + 0)), (3, .ref (zC + ro)), (4, .int i)] → W p l e room_1 s m #[Value.ref b] below meth c H locs (cl + 90) (sl + 9000) Qz (F0 m 1771 ls [])) (hw : hW2 D cA zC zM (I, J, T, F, L) (IM, JM, TM, FM, LM) A s H locs) (hl : lv_has ls 8 [(0, .ref b), (1, .ref (zC + 0)), (2, .ref (zM + 0)), (3, .ref (zC + ro)), (4, .int i)]) (h : St_tally (xs (nx (i + 1))) I J T F L ro IM JM K) : W p l e room_1 s m #[Value.ref b] below meth c H locs cl sl Qz (F0 m 1046 ls []) := by
  unfold St_tally at h
  refine lv_aload_n hx hb dl_1046 rfl (lv_at hl 1 rfl) ?_
  refine lv_aload_n hx hb dl_1047 rfl (lv_at hl 0 rfl) ?_
  refine lv_iload hx hb dl_1048 (lv_at hl 4 rfl) ?_
  refine lv_iconst (v := 1) hx hb dl_1050 (by decide) ?_
  refine lv_iadd hx hb dl_1051 ?_
  refine va_sld hx hb hX hbl hbA hw.1.2.2.2.1 (hin 1 (by decide) (by decide)) dl_1052 ?_
  refine hl_calliC hw (hm_runV (rest := []) EvC_cl X hw.1 (cH_tally EvC_cl hG h) yk_X10_tally kw623 rfl (gl_0 hG) rfl hl.1 rfl rfl rfl (Nat.le_of_ble_eq_true rfl) ⟨by decide, by decide⟩ ⟨by omega, by omega⟩ dl_1053) (fun ra u H locs hp hw => ?_)
  obtain ⟨I2, rfl, h⟩ := hp
  refine lv_aload_n hx hb dl_1056 rfl (lv_at hl 2 rfl) ?_
  refine lv_aload_n hx hb dl_1057 rfl (lv_at hl 0 rfl) ?_
  refine lv_iload hx hb dl_1058 (lv_at hl 4 rfl) ?_
  refine lv_iconst (v := 1) hx hb dl_1060 (by decide) ?_
  refine lv_iadd hx hb dl_1061 ?_
  refine va_sld hx hb hX hbl hbA hw.1.2.2.2.1 (hin 1 (by decide) (by decide)) dl_1062 ?_
  refine hl_calliM hw (hm_runV (rest := [_]) hCl_true X hw.2.1 (cM_tally h) ykM_tally kw1788 rfl LM_0 rfl hl.1 rfl rfl rfl (Nat.le_of_ble_eq_true rfl) ⟨by decide, by decide⟩ ⟨by omega, by omega⟩ dl_1063) (fun rb u H locs hp hw => ?_)
  obtain ⟨IM2, rfl, h⟩ := hp
  refine lv_icmp_eq (tgt := 1771) hx hb dl_1066 (by decide) (fun hc => ?_) (fun hc => ?_)
  · have h := h.2
    refine W.widen (k := cl + 90) (n := sl + 9000) (by omega) (by omega) ?_
    exact hK _ _ _ h hw (lv_sub hl [0, 1, 2, 3, 4] rfl)
  · exact absurd h.1 hc
theorem wl_rightOf {p : Program} {l : Launch} {e : Env} {s : State} {m : MethodId} {below : List Frame} {meth : Method} {c : Code} {H : Heap} {locs : List Loc} {cl sl : Nat} {Qz : State → Prop} {ls : Array Slot} {D : va_G} {cA : Nat → ClassId} {zC zM ro b Ln : Nat} {xs : Nat → Int32} {i : Int32} {I : HI} {J : HJ} {T F TM : HR} {L : HL} {IM : HI} {JM : HJ} {A : Nat → Prop} {K : HS → HI → HJ → Prop} (hx : p.tables.exec = Jvm.exec) (hb : c.code = code) (X : hX p m c s #[Value.ref b] R_law code 8) (hlt : l.stackTraces = false) (hX : va_X b Ln xs s s.heap) (hbl : b < s.heap.size) (hbA : ¬ A b) (hin : ∀ j : Int32, j < 6 → ¬ j < 0 → vp_in (i + j) Ln) (hG : Geo F L) (ho : (ro, 4, 1) ∈ L) (hc1 : cl + 90 ≤ room_1.cells) (hs1 : sl + 9000 ≤ room_1.slots) (hK : ∀ (SC : HS) (IM : HI) (JM : HJ) {ls : Array Slot} {H : Heap} {locs : List Loc}, K SC IM JM → hW2 D cA zC zM SC (IM, JM, TM, FM, LM) A s H locs → lv_has ls 8 [(0, .ref b), (1, .ref (zC + 0)), (2, .ref (zM + 0)), (3, .ref (zC + ro)), (4, .int i)] → W p l e room_1 s m #[Value.ref b] below meth c H locs (cl + 90) (sl + 9000) Qz (F0 m 1771 ls [])) (hw : hW2 D cA zC zM (I, J, T, F, L) (IM, JM, TM, FM, LM) A s H locs) (hl : lv_has ls 8 [(0, .ref b), (1, .ref (zC + 0)), (2, .ref (zM + 0)), (3, .ref (zC + ro)), (4, .int i)]) (h : St_rightOf (xs (nx (i + 1))) I J T F L ro IM JM K) : W p l e room_1 s m #[Value.ref b] below meth c H locs cl sl Qz (F0 m 1071 ls []) := by
  unfold St_rightOf at h
  refine lv_aload_n hx hb dl_1071 rfl (lv_at hl 1 rfl) ?_
  refine lv_aload_n hx hb dl_1072 rfl (lv_at hl 0 rfl) ?_
  refine lv_iload hx hb dl_1073 (lv_at hl 4 rfl) ?_
  refine lv_iconst (v := 1) hx hb dl_1075 (by decide) ?_
  refine lv_iadd hx hb dl_1076 ?_
  refine va_sld hx hb hX hbl hbA hw.1.2.2.2.1 (hin 1 (by decide) (by decide)) dl_1077 ?_
  refine lv_aload_n hx hb dl_1078 rfl (lv_at hl 3 rfl) ?_
  refine hl_calliC hw (hm_runSW (rest := []) EvC_cl X hw.1 (kL_rightOf hlt hG ho h) yw_rightOf kw1112 rfl hl.1 rfl rfl rfl (Nat.le_of_ble_eq_true rfl) ⟨by decide, by decide⟩ ⟨by omega, by omega⟩ dl_1079) (fun rk u H locs hp hw => ?_)
  obtain ⟨I2, J2, T2, F2, L2⟩ := u
  obtain ⟨ho, h⟩ := hp
  replace ho : (ro, 4, 1) ∈ L2 := ho
  refine lv_istore (lv' := [(5, _), (0, _), (1, _), (2, _), (3, _), (4, _)]) hx hb dl_1082 hl (by decide) rfl (fun ls hl => ?_)
  refine lv_aload_n hx hb dl_1084 rfl (lv_at hl 3 rfl) ?_
  refine lv_aload_n hx hb dl_1085 rfl (lv_at hl 1 rfl) ?_
  refine lv_iload hx hb dl_1086 (lv_at hl 5 rfl) ?_
  refine lv_iconst (v := 1) hx hb dl_1088 (by decide) ?_
  refine lv_iadd hx hb dl_1089 ?_
  refine va_sld hx hb hX hbl hbA hw.1.2.2.2.1 (hin 1 (by decide) (by decide)) dl_1090 ?_
  refine hl_calliM hw (hm_runV (rest := []) hCl_true X hw.2.1 (cM_rightOf h) ykM_rightOf kw1792 rfl LM_0 rfl hl.1 rfl rfl rfl (Nat.le_of_ble_eq_true rfl) ⟨by decide, by decide⟩ ⟨by omega, by omega⟩ dl_1091) (fun rb u H locs hp hw => ?_)
  obtain ⟨IM2, rfl, h⟩ := hp
  refine lv_istore (lv' := [(6, _), (5, _), (0, _), (1, _), (2, _), (3, _), (4, _)]) hx hb dl_1094 hl (by decide) rfl (fun ls hl => ?_)
  refine lv_aload_n hx hb dl_1096 rfl (lv_at hl 4 rfl) ?_
  refine hl_calliM hw (hm_runV (rest := []) hCl_true X hw.2.1 (cM_thrown h) ykM_thrown kw1575 rfl LM_0 rfl hl.1 rfl rfl rfl (Nat.le_of_ble_eq_true rfl) ⟨by decide, by decide⟩ ⟨by omega, by omega⟩ dl_1097) (fun rt u H locs hp hw => ?_)
  obtain ⟨rfl, h⟩ := hp
  refine lv_iload hx hb dl_1100 (lv_at hl 1 rfl) ?_
  refine lv_icmp_eq (tgt := 1107) hx hb dl_1102 (by decide) (fun hc => ?_) (fun hc => ?_)
  rotate_left
  · exact absurd h.1 hc
  have h := h.2
  refine lv_iload hx hb dl_1107 (lv_at hl 1 rfl) ?_
  refine lv_if_ne (tgt := 1124) hx hb dl_1109 (by decide) (fun hc => ?_) (fun hc => ?_)
  · have h := h.2
    refine lv_goto (tgt := 1771) hx hb dl_1124 (by decide) ?_
    refine W.widen (k := cl + 90) (n := sl + 9000) (by omega) (by omega) ?_
    exact hK _ _ _ h hw (lv_sub hl [2, 3, 4, 5, 6] rfl)
  have hj := h.1 hc
  have h := h.2
  refine lv_aload_n hx hb dl_1112 rfl (lv_at hl 5 rfl) ?_
  refine lv_iconst (v := 0) hx hb dl_1113 (by decide) ?_
  refine hm_lald X hw.1 ho (by unfold vp_in; decide) dl_1114 ?_
  refine lv_iload hx hb dl_1115 (lv_at hl 0 rfl) ?_
  refine lv_i2l (v := Int32.toInt64 rb) hx hb dl_1117 rfl ?_
  refine W.lcmp hx hb dl_1118 ?_
  refine lv_if_eq (tgt := 1124) hx hb dl_1119 (by decide) (fun hc => ?_) (fun hc => ?_)
  rotate_left
  · exact absurd (hl_cmp_eq hj) hc
  refine lv_goto (tgt := 1771) hx hb dl_1124 (by decide) ?_
  refine W.widen (k := cl + 90) (n := sl + 9000) (by omega) (by omega) ?_
  exact hK _ _ _ h hw (lv_sub hl [2, 3, 4, 5, 6] rfl)
