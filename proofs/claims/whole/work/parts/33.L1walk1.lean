theorem wl_worst {p : Program} {l : Launch} {e : Env} {s : State} {m : MethodId} {below : List Frame} {meth : Method} {c : Code} {H : Heap} {locs : List Loc} {cl sl : Nat} {Qz : State → Prop} {ls : Array Slot} {D : va_G} {cA : Nat → ClassId} {zC zM ro b Ln : Nat} {xs : Nat → Int32} {i : Int32} {I : HI} {J : HJ} {T F TM : HR} {L : HL} {IM : HI} {JM : HJ} {A : Nat → Prop} {K : HS → HI → HJ → Prop} (hx : p.tables.exec = Jvm.exec) (hb : c.code = code) (X : hX p m c s #[Value.ref b] R_law code 8) (hlt : l.stackTraces = false) (hX : va_X b Ln xs s s.heap) (hbl : b < s.heap.size) (hbA : ¬ A b) (hin : ∀ j : Int32, j < 6 → ¬ j < 0 → vp_in (i + j) Ln) (hG : Geo F L) (ho : (ro, 4, 1) ∈ L) (hc1 : cl + 90 ≤ room_1.cells) (hs1 : sl + 9000 ≤ room_1.slots) (hK : ∀ (SC : HS) (IM : HI) (JM : HJ) {ls : Array Slot} {H : Heap} {locs : List Loc}, K SC IM JM → hW2 D cA zC zM SC (IM, JM, TM, FM, LM) A s H locs → lv_has ls 8 [(0, .ref b), (1, .ref (zC + 0)), (2, .ref (zM + 0)), (3, .ref (zC + ro)), (4, .int i)] → W p l e room_1 s m #[Value.ref b] below meth c H locs (cl + 90) (sl + 9000) Qz (F0 m 1771 ls [])) (hw : hW2 D cA zC zM (I, J, T, F, L) (IM, JM, TM, FM, LM) A s H locs) (hl : lv_has ls 8 [(0, .ref b), (1, .ref (zC + 0)), (2, .ref (zM + 0)), (3, .ref (zC + ro)), (4, .int i)]) (h : St_worst (xs (nx (i + 1))) I J T F L ro IM JM K) : W p l e room_1 s m #[Value.ref b] below meth c H locs cl sl Qz (F0 m 1127 ls []) := by
  unfold St_worst at h
  refine lv_aload_n hx hb dl_1127 rfl (lv_at hl 1 rfl) ?_
  refine lv_aload_n hx hb dl_1128 rfl (lv_at hl 0 rfl) ?_
  refine lv_iload hx hb dl_1129 (lv_at hl 4 rfl) ?_
  refine lv_iconst (v := 1) hx hb dl_1131 (by decide) ?_
  refine lv_iadd hx hb dl_1132 ?_
  refine va_sld hx hb hX hbl hbA hw.1.2.2.2.1 (hin 1 (by decide) (by decide)) dl_1133 ?_
  refine lv_aload_n hx hb dl_1134 rfl (lv_at hl 3 rfl) ?_
  refine hl_calliC hw (hm_runSW (rest := []) EvC_cl X hw.1 (kL_worst hlt hG ho h) yw_worst kw1123 rfl hl.1 rfl rfl rfl (Nat.le_of_ble_eq_true rfl) ⟨by decide, by decide⟩ ⟨by omega, by omega⟩ dl_1135) (fun rk u H locs hp hw => ?_)
  obtain ⟨I2, J2, T2, F2, L2⟩ := u
  obtain ⟨ho, h⟩ := hp
  replace ho : (ro, 4, 1) ∈ L2 := ho
  refine lv_istore (lv' := [(5, _), (0, _), (1, _), (2, _), (3, _), (4, _)]) hx hb dl_1138 hl (by decide) rfl (fun ls hl => ?_)
  refine lv_aload_n hx hb dl_1140 rfl (lv_at hl 3 rfl) ?_
  refine lv_aload_n hx hb dl_1141 rfl (lv_at hl 1 rfl) ?_
  refine lv_iload hx hb dl_1142 (lv_at hl 5 rfl) ?_
  refine lv_iconst (v := 1) hx hb dl_1144 (by decide) ?_
  refine lv_iadd hx hb dl_1145 ?_
  refine va_sld hx hb hX hbl hbA hw.1.2.2.2.1 (hin 1 (by decide) (by decide)) dl_1146 ?_
  refine hl_calliM hw (hm_runV (rest := []) hCl_true X hw.2.1 (cM_worst h) ykM_worst kw1796 rfl LM_0 rfl hl.1 rfl rfl rfl (Nat.le_of_ble_eq_true rfl) ⟨by decide, by decide⟩ ⟨by omega, by omega⟩ dl_1147) (fun rb u H locs hp hw => ?_)
  obtain ⟨IM2, rfl, h⟩ := hp
  refine lv_istore (lv' := [(6, _), (5, _), (0, _), (1, _), (2, _), (3, _), (4, _)]) hx hb dl_1150 hl (by decide) rfl (fun ls hl => ?_)
  refine lv_aload_n hx hb dl_1152 rfl (lv_at hl 4 rfl) ?_
  refine hl_calliM hw (hm_runV (rest := []) hCl_true X hw.2.1 (cM_thrown h) ykM_thrown kw1575 rfl LM_0 rfl hl.1 rfl rfl rfl (Nat.le_of_ble_eq_true rfl) ⟨by decide, by decide⟩ ⟨by omega, by omega⟩ dl_1153) (fun rt u H locs hp hw => ?_)
  obtain ⟨rfl, h⟩ := hp
  refine lv_iload hx hb dl_1156 (lv_at hl 1 rfl) ?_
  refine lv_icmp_eq (tgt := 1163) hx hb dl_1158 (by decide) (fun hc => ?_) (fun hc => ?_)
  rotate_left
  · exact absurd h.1 hc
  have h := h.2
  refine lv_iload hx hb dl_1163 (lv_at hl 1 rfl) ?_
  refine lv_if_ne (tgt := 1180) hx hb dl_1165 (by decide) (fun hc => ?_) (fun hc => ?_)
  · have h := h.2
    refine lv_goto (tgt := 1771) hx hb dl_1180 (by decide) ?_
    refine W.widen (k := cl + 90) (n := sl + 9000) (by omega) (by omega) ?_
    exact hK _ _ _ h hw (lv_sub hl [2, 3, 4, 5, 6] rfl)
  have hj := h.1 hc
  have h := h.2
  refine lv_aload_n hx hb dl_1168 rfl (lv_at hl 5 rfl) ?_
  refine lv_iconst (v := 0) hx hb dl_1169 (by decide) ?_
  refine hm_lald X hw.1 ho (by unfold vp_in; decide) dl_1170 ?_
  refine lv_iload hx hb dl_1171 (lv_at hl 0 rfl) ?_
  refine lv_i2l (v := Int32.toInt64 rb) hx hb dl_1173 rfl ?_
  refine W.lcmp hx hb dl_1174 ?_
  refine lv_if_eq (tgt := 1180) hx hb dl_1175 (by decide) (fun hc => ?_) (fun hc => ?_)
  rotate_left
  · exact absurd (hl_cmp_eq hj) hc
  refine lv_goto (tgt := 1771) hx hb dl_1180 (by decide) ?_
  refine W.widen (k := cl + 90) (n := sl + 9000) (by omega) (by omega) ?_
  exact hK _ _ _ h hw (lv_sub hl [2, 3, 4, 5, 6] rfl)
theorem wl_idle {p : Program} {l : Launch} {e : Env} {s : State} {m : MethodId} {below : List Frame} {meth : Method} {c : Code} {H : Heap} {locs : List Loc} {cl sl : Nat} {Qz : State → Prop} {ls : Array Slot} {D : va_G} {cA : Nat → ClassId} {zC zM ro b Ln : Nat} {xs : Nat → Int32} {i : Int32} {I : HI} {J : HJ} {T F TM : HR} {L : HL} {IM : HI} {JM : HJ} {A : Nat → Prop} {K : HS → HI → HJ → Prop} (hx : p.tables.exec = Jvm.exec) (hb : c.code = code) (X : hX p m c s #[Value.ref b] R_law code 8) (hlt : l.stackTraces = false) (hX : va_X b Ln xs s s.heap) (hbl : b < s.heap.size) (hbA : ¬ A b) (hin : ∀ j : Int32, j < 6 → ¬ j < 0 → vp_in (i + j) Ln) (hG : Geo F L) (ho : (ro, 4, 1) ∈ L) (hc1 : cl + 90 ≤ room_1.cells) (hs1 : sl + 9000 ≤ room_1.slots) (hK : ∀ (SC : HS) (IM : HI) (JM : HJ) {ls : Array Slot} {H : Heap} {locs : List Loc}, K SC IM JM → hW2 D cA zC zM SC (IM, JM, TM, FM, LM) A s H locs → lv_has ls 8 [(0, .ref b), (1, .ref (zC + 0)), (2, .ref (zM + 0)), (3, .ref (zC + ro)), (4, .int i)] → W p l e room_1 s m #[Value.ref b] below meth c H locs (cl + 90) (sl + 9000) Qz (F0 m 1771 ls [])) (hw : hW2 D cA zC zM (I, J, T, F, L) (IM, JM, TM, FM, LM) A s H locs) (hl : lv_has ls 8 [(0, .ref b), (1, .ref (zC + 0)), (2, .ref (zM + 0)), (3, .ref (zC + ro)), (4, .int i)]) (h : St_idle (xs (nx (i + 1))) I J T F L ro IM JM K) : W p l e room_1 s m #[Value.ref b] below meth c H locs cl sl Qz (F0 m 1183 ls []) := by
  unfold St_idle at h
  refine lv_aload_n hx hb dl_1183 rfl (lv_at hl 1 rfl) ?_
  refine lv_aload_n hx hb dl_1184 rfl (lv_at hl 0 rfl) ?_
  refine lv_iload hx hb dl_1185 (lv_at hl 4 rfl) ?_
  refine lv_iconst (v := 1) hx hb dl_1187 (by decide) ?_
  refine lv_iadd hx hb dl_1188 ?_
  refine va_sld hx hb hX hbl hbA hw.1.2.2.2.1 (hin 1 (by decide) (by decide)) dl_1189 ?_
  refine lv_aload_n hx hb dl_1190 rfl (lv_at hl 3 rfl) ?_
  refine hl_calliC hw (hm_runSW (rest := []) EvC_cl X hw.1 (kL_idle hlt hG ho h) yw_idle kw1127 rfl hl.1 rfl rfl rfl (Nat.le_of_ble_eq_true rfl) ⟨by decide, by decide⟩ ⟨by omega, by omega⟩ dl_1191) (fun rk u H locs hp hw => ?_)
  obtain ⟨I2, J2, T2, F2, L2⟩ := u
  obtain ⟨ho, h⟩ := hp
  replace ho : (ro, 4, 1) ∈ L2 := ho
  refine lv_istore (lv' := [(5, _), (0, _), (1, _), (2, _), (3, _), (4, _)]) hx hb dl_1194 hl (by decide) rfl (fun ls hl => ?_)
  refine lv_aload_n hx hb dl_1196 rfl (lv_at hl 3 rfl) ?_
  refine lv_aload_n hx hb dl_1197 rfl (lv_at hl 1 rfl) ?_
  refine lv_iload hx hb dl_1198 (lv_at hl 5 rfl) ?_
  refine lv_iconst (v := 1) hx hb dl_1200 (by decide) ?_
  refine lv_iadd hx hb dl_1201 ?_
  refine va_sld hx hb hX hbl hbA hw.1.2.2.2.1 (hin 1 (by decide) (by decide)) dl_1202 ?_
  refine hl_calliM hw (hm_runV (rest := []) hCl_true X hw.2.1 (cM_idle h) ykM_idle kw1804 rfl LM_0 rfl hl.1 rfl rfl rfl (Nat.le_of_ble_eq_true rfl) ⟨by decide, by decide⟩ ⟨by omega, by omega⟩ dl_1203) (fun rb u H locs hp hw => ?_)
  obtain ⟨IM2, rfl, h⟩ := hp
  refine lv_istore (lv' := [(6, _), (5, _), (0, _), (1, _), (2, _), (3, _), (4, _)]) hx hb dl_1206 hl (by decide) rfl (fun ls hl => ?_)
  refine lv_aload_n hx hb dl_1208 rfl (lv_at hl 4 rfl) ?_
  refine hl_calliM hw (hm_runV (rest := []) hCl_true X hw.2.1 (cM_thrown h) ykM_thrown kw1575 rfl LM_0 rfl hl.1 rfl rfl rfl (Nat.le_of_ble_eq_true rfl) ⟨by decide, by decide⟩ ⟨by omega, by omega⟩ dl_1209) (fun rt u H locs hp hw => ?_)
  obtain ⟨rfl, h⟩ := hp
  refine lv_iload hx hb dl_1212 (lv_at hl 1 rfl) ?_
  refine lv_icmp_eq (tgt := 1219) hx hb dl_1214 (by decide) (fun hc => ?_) (fun hc => ?_)
  rotate_left
  · exact absurd h.1 hc
  have h := h.2
  refine lv_iload hx hb dl_1219 (lv_at hl 1 rfl) ?_
  refine lv_if_ne (tgt := 1236) hx hb dl_1221 (by decide) (fun hc => ?_) (fun hc => ?_)
  · have h := h.2
    refine lv_goto (tgt := 1771) hx hb dl_1236 (by decide) ?_
    refine W.widen (k := cl + 90) (n := sl + 9000) (by omega) (by omega) ?_
    exact hK _ _ _ h hw (lv_sub hl [2, 3, 4, 5, 6] rfl)
  have hj := h.1 hc
  have h := h.2
  refine lv_aload_n hx hb dl_1224 rfl (lv_at hl 5 rfl) ?_
  refine lv_iconst (v := 0) hx hb dl_1225 (by decide) ?_
  refine hm_lald X hw.1 ho (by unfold vp_in; decide) dl_1226 ?_
  refine lv_iload hx hb dl_1227 (lv_at hl 0 rfl) ?_
  refine lv_i2l (v := Int32.toInt64 rb) hx hb dl_1229 rfl ?_
  refine W.lcmp hx hb dl_1230 ?_
  refine lv_if_eq (tgt := 1236) hx hb dl_1231 (by decide) (fun hc => ?_) (fun hc => ?_)
  rotate_left
  · exact absurd (hl_cmp_eq hj) hc
  refine lv_goto (tgt := 1771) hx hb dl_1236 (by decide) ?_
  refine W.widen (k := cl + 90) (n := sl + 9000) (by omega) (by omega) ?_
  exact hK _ _ _ h hw (lv_sub hl [2, 3, 4, 5, 6] rfl)
theorem wl_otherwise {p : Program} {l : Launch} {e : Env} {s : State} {m : MethodId} {below : List Frame} {meth : Method} {c : Code} {H : Heap} {locs : List Loc} {cl sl : Nat} {Qz : State → Prop} {ls : Array Slot} {D : va_G} {cA : Nat → ClassId} {zC zM ro b Ln : Nat} {xs : Nat → Int32} {i : Int32} {I : HI} {J : HJ} {T F TM : HR} {L : HL} {IM : HI} {JM : HJ} {A : Nat → Prop} {K : HS → HI → HJ → Prop} (hx : p.tables.exec = Jvm.exec) (hb : c.code = code) (X : hX p m c s #[Value.ref b] R_law code 8) (hlt : l.stackTraces = false) (hX : va_X b Ln xs s s.heap) (hbl : b < s.heap.size) (hbA : ¬ A b) (hin : ∀ j : Int32, j < 6 → ¬ j < 0 → vp_in (i + j) Ln) (hG : Geo F L) (ho : (ro, 4, 1) ∈ L) (hc1 : cl + 90 ≤ room_1.cells) (hs1 : sl + 9000 ≤ room_1.slots) (hK : ∀ (SC : HS) (IM : HI) (JM : HJ) {ls : Array Slot} {H : Heap} {locs : List Loc}, K SC IM JM → hW2 D cA zC zM SC (IM, JM, TM, FM, LM) A s H locs → lv_has ls 8 [(0, .ref b), (1, .ref (zC + 0)), (2, .ref (zM + 0)), (3, .ref (zC + ro)), (4, .int i)] → W p l e room_1 s m #[Value.ref b] below meth c H locs (cl + 90) (sl + 9000) Qz (F0 m 1771 ls [])) (hw : hW2 D cA zC zM (I, J, T, F, L) (IM, JM, TM, FM, LM) A s H locs) (hl : lv_has ls 8 [(0, .ref b), (1, .ref (zC + 0)), (2, .ref (zM + 0)), (3, .ref (zC + ro)), (4, .int i)]) (h : St_otherwise (xs (nx (i + 1))) (xs (nx (i + 2))) I J T F L ro IM JM K) : W p l e room_1 s m #[Value.ref b] below meth c H locs cl sl Qz (F0 m 1239 ls []) := by
  unfold St_otherwise at h
  refine lv_aload_n hx hb dl_1239 rfl (lv_at hl 1 rfl) ?_
  refine lv_aload_n hx hb dl_1240 rfl (lv_at hl 0 rfl) ?_
  refine lv_iload hx hb dl_1241 (lv_at hl 4 rfl) ?_
  refine lv_iconst (v := 1) hx hb dl_1243 (by decide) ?_
  refine lv_iadd hx hb dl_1244 ?_
  refine va_sld hx hb hX hbl hbA hw.1.2.2.2.1 (hin 1 (by decide) (by decide)) dl_1245 ?_
  refine lv_aload_n hx hb dl_1246 rfl (lv_at hl 0 rfl) ?_
  refine lv_iload hx hb dl_1247 (lv_at hl 4 rfl) ?_
  refine lv_iconst (v := 2) hx hb dl_1249 (by decide) ?_
  refine lv_iadd hx hb dl_1250 ?_
  refine va_sld hx hb hX hbl hbA hw.1.2.2.2.1 (hin 2 (by decide) (by decide)) dl_1251 ?_
  refine lv_aload_n hx hb dl_1252 rfl (lv_at hl 3 rfl) ?_
  refine hl_calliC hw (hm_runSW (rest := []) EvC_cl X hw.1 (kL_otherwise hlt hG ho h) yw_otherwise kw1142 rfl hl.1 rfl rfl rfl (Nat.le_of_ble_eq_true rfl) ⟨by decide, by decide⟩ ⟨by omega, by omega⟩ dl_1253) (fun rk u H locs hp hw => ?_)
  obtain ⟨I2, J2, T2, F2, L2⟩ := u
  obtain ⟨ho, h⟩ := hp
  replace ho : (ro, 4, 1) ∈ L2 := ho
  refine lv_istore (lv' := [(5, _), (0, _), (1, _), (2, _), (3, _), (4, _)]) hx hb dl_1256 hl (by decide) rfl (fun ls hl => ?_)
  refine lv_aload_n hx hb dl_1258 rfl (lv_at hl 3 rfl) ?_
  refine lv_aload_n hx hb dl_1259 rfl (lv_at hl 1 rfl) ?_
  refine lv_iload hx hb dl_1260 (lv_at hl 5 rfl) ?_
  refine lv_iconst (v := 1) hx hb dl_1262 (by decide) ?_
  refine lv_iadd hx hb dl_1263 ?_
  refine va_sld hx hb hX hbl hbA hw.1.2.2.2.1 (hin 1 (by decide) (by decide)) dl_1264 ?_
  refine lv_aload_n hx hb dl_1265 rfl (lv_at hl 1 rfl) ?_
  refine lv_iload hx hb dl_1266 (lv_at hl 5 rfl) ?_
  refine lv_iconst (v := 2) hx hb dl_1268 (by decide) ?_
  refine lv_iadd hx hb dl_1269 ?_
  refine va_sld hx hb hX hbl hbA hw.1.2.2.2.1 (hin 2 (by decide) (by decide)) dl_1270 ?_
  refine hl_calliM hw (hm_runV (rest := []) hCl_true X hw.2.1 (cM_otherwise h) ykM_otherwise kw1812 rfl LM_0 rfl hl.1 rfl rfl rfl (Nat.le_of_ble_eq_true rfl) ⟨by decide, by decide⟩ ⟨by omega, by omega⟩ dl_1271) (fun rb u H locs hp hw => ?_)
  obtain ⟨IM2, rfl, h⟩ := hp
  refine lv_istore (lv' := [(6, _), (5, _), (0, _), (1, _), (2, _), (3, _), (4, _)]) hx hb dl_1274 hl (by decide) rfl (fun ls hl => ?_)
  refine lv_aload_n hx hb dl_1276 rfl (lv_at hl 4 rfl) ?_
  refine hl_calliM hw (hm_runV (rest := []) hCl_true X hw.2.1 (cM_thrown h) ykM_thrown kw1575 rfl LM_0 rfl hl.1 rfl rfl rfl (Nat.le_of_ble_eq_true rfl) ⟨by decide, by decide⟩ ⟨by omega, by omega⟩ dl_1277) (fun rt u H locs hp hw => ?_)
  obtain ⟨rfl, h⟩ := hp
  refine lv_iload hx hb dl_1280 (lv_at hl 1 rfl) ?_
  refine lv_icmp_eq (tgt := 1287) hx hb dl_1282 (by decide) (fun hc => ?_) (fun hc => ?_)
  rotate_left
  · exact absurd h.1 hc
  have h := h.2
  refine lv_iload hx hb dl_1287 (lv_at hl 1 rfl) ?_
  refine lv_if_ne (tgt := 1304) hx hb dl_1289 (by decide) (fun hc => ?_) (fun hc => ?_)
  · have h := h.2
    refine lv_goto (tgt := 1771) hx hb dl_1304 (by decide) ?_
    refine W.widen (k := cl + 90) (n := sl + 9000) (by omega) (by omega) ?_
    exact hK _ _ _ h hw (lv_sub hl [2, 3, 4, 5, 6] rfl)
  have hj := h.1 hc
  have h := h.2
  refine lv_aload_n hx hb dl_1292 rfl (lv_at hl 5 rfl) ?_
  refine lv_iconst (v := 0) hx hb dl_1293 (by decide) ?_
  refine hm_lald X hw.1 ho (by unfold vp_in; decide) dl_1294 ?_
  refine lv_iload hx hb dl_1295 (lv_at hl 0 rfl) ?_
  refine lv_i2l (v := Int32.toInt64 rb) hx hb dl_1297 rfl ?_
  refine W.lcmp hx hb dl_1298 ?_
  refine lv_if_eq (tgt := 1304) hx hb dl_1299 (by decide) (fun hc => ?_) (fun hc => ?_)
  rotate_left
  · exact absurd (hl_cmp_eq hj) hc
  refine lv_goto (tgt := 1771) hx hb dl_1304 (by decide) ?_
  refine W.widen (k := cl + 90) (n := sl + 9000) (by omega) (by omega) ?_
  exact hK _ _ _ h hw (lv_sub hl [2, 3, 4, 5, 6] rfl)
theorem wl_alike {p : Program} {l : Launch} {e : Env} {s : State} {m : MethodId} {below : List Frame} {meth : Method} {c : Code} {H : Heap} {locs : List Loc} {cl sl : Nat} {Qz : State → Prop} {ls : Array Slot} {D : va_G} {cA : Nat → ClassId} {zC zM ro b Ln : Nat} {xs : Nat → Int32} {i : Int32} {I : HI} {J : HJ} {T F TM : HR} {L : HL} {IM : HI} {JM : HJ} {A : Nat → Prop} {K : HS → HI → HJ → Prop} (hx : p.tables.exec = Jvm.exec) (hb : c.code = code) (X : hX p m c s #[Value.ref b] R_law code 8) (hlt : l.stackTraces = false) (hX : va_X b Ln xs s s.heap) (hbl : b < s.heap.size) (hbA : ¬ A b) (hin : ∀ j : Int32, j < 6 → ¬ j < 0 → vp_in (i + j) Ln) (hG : Geo F L) (ho : (ro, 4, 1) ∈ L) (hc1 : cl + 90 ≤ room_1.cells) (hs1 : sl + 9000 ≤ room_1.slots) (hK : ∀ (SC : HS) (IM : HI) (JM : HJ) {ls : Array Slot} {H : Heap} {locs : List Loc}, K SC IM JM → hW2 D cA zC zM SC (IM, JM, TM, FM, LM) A s H locs → lv_has ls 8 [(0, .ref b), (1, .ref (zC + 0)), (2, .ref (zM + 0)), (3, .ref (zC + ro)), (4, .int i)] → W p l e room_1 s m #[Value.ref b] below meth c H locs (cl + 90) (sl + 9000) Qz (F0 m 1771 ls [])) (hw : hW2 D cA zC zM (I, J, T, F, L) (IM, JM, TM, FM, LM) A s H locs) (hl : lv_has ls 8 [(0, .ref b), (1, .ref (zC + 0)), (2, .ref (zM + 0)), (3, .ref (zC + ro)), (4, .int i)]) (h : St_alike I J T F L ro IM JM K) : W p l e room_1 s m #[Value.ref b] below meth c H locs cl sl Qz (F0 m 1307 ls []) := by
  unfold St_alike at h
  refine lv_aload_n hx hb dl_1307 rfl (lv_at hl 1 rfl) ?_
  refine hl_calliC hw (hm_runV (rest := []) EvC_cl X hw.1 (cH_alike EvC_cl hG h) yk_X10_alike kw632 rfl (gl_0 hG) rfl hl.1 rfl rfl rfl (Nat.le_of_ble_eq_true rfl) ⟨by decide, by decide⟩ ⟨by omega, by omega⟩ dl_1308) (fun ra u H locs hp hw => ?_)
  obtain ⟨I2, rfl, h⟩ := hp
  refine lv_aload_n hx hb dl_1311 rfl (lv_at hl 2 rfl) ?_
  refine hl_calliM hw (hm_runV (rest := [_]) hCl_true X hw.2.1 (cM_alike h) ykM_alike kw1816 rfl LM_0 rfl hl.1 rfl rfl rfl (Nat.le_of_ble_eq_true rfl) ⟨by decide, by decide⟩ ⟨by omega, by omega⟩ dl_1312) (fun rb u H locs hp hw => ?_)
  obtain ⟨IM2, rfl, h⟩ := hp
  refine lv_icmp_eq (tgt := 1771) hx hb dl_1315 (by decide) (fun hc => ?_) (fun hc => ?_)
  · have h := h.2
    refine W.widen (k := cl + 90) (n := sl + 9000) (by omega) (by omega) ?_
    exact hK _ _ _ h hw (lv_sub hl [0, 1, 2, 3, 4] rfl)
  · exact absurd h.1 hc
theorem wl_ring {p : Program} {l : Launch} {e : Env} {s : State} {m : MethodId} {below : List Frame} {meth : Method} {c : Code} {H : Heap} {locs : List Loc} {cl sl : Nat} {Qz : State → Prop} {ls : Array Slot} {D : va_G} {cA : Nat → ClassId} {zC zM ro b Ln : Nat} {xs : Nat → Int32} {i : Int32} {I : HI} {J : HJ} {T F TM : HR} {L : HL} {IM : HI} {JM : HJ} {A : Nat → Prop} {K : HS → HI → HJ → Prop} (hx : p.tables.exec = Jvm.exec) (hb : c.code = code) (X : hX p m c s #[Value.ref b] R_law code 8) (hlt : l.stackTraces = false) (hX : va_X b Ln xs s s.heap) (hbl : b < s.heap.size) (hbA : ¬ A b) (hin : ∀ j : Int32, j < 6 → ¬ j < 0 → vp_in (i + j) Ln) (hG : Geo F L) (ho : (ro, 4, 1) ∈ L) (hc1 : cl + 90 ≤ room_1.cells) (hs1 : sl + 9000 ≤ room_1.slots) (hK : ∀ (SC : HS) (IM : HI) (JM : HJ) {ls : Array Slot} {H : Heap} {locs : List Loc}, K SC IM JM → hW2 D cA zC zM SC (IM, JM, TM, FM, LM) A s H locs → lv_has ls 8 [(0, .ref b), (1, .ref (zC + 0)), (2, .ref (zM + 0)), (3, .ref (zC + ro)), (4, .int i)] → W p l e room_1 s m #[Value.ref b] below meth c H locs (cl + 90) (sl + 9000) Qz (F0 m 1771 ls [])) (hw : hW2 D cA zC zM (I, J, T, F, L) (IM, JM, TM, FM, LM) A s H locs) (hl : lv_has ls 8 [(0, .ref b), (1, .ref (zC + 0)), (2, .ref (zM + 0)), (3, .ref (zC + ro)), (4, .int i)]) (h : St_ring I J T F L ro IM JM K) : W p l e room_1 s m #[Value.ref b] below meth c H locs cl sl Qz (F0 m 1320 ls []) := by
  unfold St_ring at h
  refine lv_aload_n hx hb dl_1320 rfl (lv_at hl 1 rfl) ?_
  refine hl_calliC hw (hm_runV (rest := []) EvC_cl X hw.1 (cH_ring EvC_cl hG h) yk_X10_ring kw647 rfl (gl_0 hG) rfl hl.1 rfl rfl rfl (Nat.le_of_ble_eq_true rfl) ⟨by decide, by decide⟩ ⟨by omega, by omega⟩ dl_1321) (fun ra u H locs hp hw => ?_)
  obtain ⟨rfl, h⟩ := hp
  refine lv_aload_n hx hb dl_1324 rfl (lv_at hl 2 rfl) ?_
  refine hl_calliM hw (hm_runV (rest := [_]) hCl_true X hw.2.1 (cM_ring h) ykM_ring kw1832 rfl LM_0 rfl hl.1 rfl rfl rfl (Nat.le_of_ble_eq_true rfl) ⟨by decide, by decide⟩ ⟨by omega, by omega⟩ dl_1325) (fun rb u H locs hp hw => ?_)
  obtain ⟨IM2, rfl, h⟩ := hp
  refine lv_icmp_eq (tgt := 1771) hx hb dl_1328 (by decide) (fun hc => ?_) (fun hc => ?_)
  · have h := h.2
    refine W.widen (k := cl + 90) (n := sl + 9000) (by omega) (by omega) ?_
    exact hK _ _ _ h hw (lv_sub hl [0, 1, 2, 3, 4] rfl)
  · exact absurd h.1 hc
theorem wl_search {p : Program} {l : Launch} {e : Env} {s : State} {m : MethodId} {below : List Frame} {meth : Method} {c : Code} {H : Heap} {locs : List Loc} {cl sl : Nat} {Qz : State → Prop} {ls : Array Slot} {D : va_G} {cA : Nat → ClassId} {zC zM ro b Ln : Nat} {xs : Nat → Int32} {i : Int32} {I : HI} {J : HJ} {T F TM : HR} {L : HL} {IM : HI} {JM : HJ} {A : Nat → Prop} {K : HS → HI → HJ → Prop} (hx : p.tables.exec = Jvm.exec) (hb : c.code = code) (X : hX p m c s #[Value.ref b] R_law code 8) (hlt : l.stackTraces = false) (hX : va_X b Ln xs s s.heap) (hbl : b < s.heap.size) (hbA : ¬ A b) (hin : ∀ j : Int32, j < 6 → ¬ j < 0 → vp_in (i + j) Ln) (hG : Geo F L) (ho : (ro, 4, 1) ∈ L) (hc1 : cl + 90 ≤ room_1.cells) (hs1 : sl + 9000 ≤ room_1.slots) (hK : ∀ (SC : HS) (IM : HI) (JM : HJ) {ls : Array Slot} {H : Heap} {locs : List Loc}, K SC IM JM → hW2 D cA zC zM SC (IM, JM, TM, FM, LM) A s H locs → lv_has ls 8 [(0, .ref b), (1, .ref (zC + 0)), (2, .ref (zM + 0)), (3, .ref (zC + ro)), (4, .int i)] → W p l e room_1 s m #[Value.ref b] below meth c H locs (cl + 90) (sl + 9000) Qz (F0 m 1771 ls [])) (hw : hW2 D cA zC zM (I, J, T, F, L) (IM, JM, TM, FM, LM) A s H locs) (hl : lv_has ls 8 [(0, .ref b), (1, .ref (zC + 0)), (2, .ref (zM + 0)), (3, .ref (zC + ro)), (4, .int i)]) (h : St_search (xs (nx (i + 1))) I J T F L ro IM JM K) : W p l e room_1 s m #[Value.ref b] below meth c H locs cl sl Qz (F0 m 1333 ls []) := by
  unfold St_search at h
  refine lv_aload_n hx hb dl_1333 rfl (lv_at hl 1 rfl) ?_
  refine lv_aload_n hx hb dl_1334 rfl (lv_at hl 0 rfl) ?_
  refine lv_iload hx hb dl_1335 (lv_at hl 4 rfl) ?_
  refine lv_iconst (v := 1) hx hb dl_1337 (by decide) ?_
  refine lv_iadd hx hb dl_1338 ?_
  refine va_sld hx hb hX hbl hbA hw.1.2.2.2.1 (hin 1 (by decide) (by decide)) dl_1339 ?_
  refine lv_aload_n hx hb dl_1340 rfl (lv_at hl 3 rfl) ?_
  refine hl_calliC hw (hm_runSW (rest := []) EvC_cl X hw.1 (kL_search hlt hG ho h) yw_search kw1151 rfl hl.1 rfl rfl rfl (Nat.le_of_ble_eq_true rfl) ⟨by decide, by decide⟩ ⟨by omega, by omega⟩ dl_1341) (fun rk u H locs hp hw => ?_)
  obtain ⟨I2, J2, T2, F2, L2⟩ := u
  obtain ⟨ho, h⟩ := hp
  replace ho : (ro, 4, 1) ∈ L2 := ho
  refine lv_istore (lv' := [(5, _), (0, _), (1, _), (2, _), (3, _), (4, _)]) hx hb dl_1344 hl (by decide) rfl (fun ls hl => ?_)
  refine lv_aload_n hx hb dl_1346 rfl (lv_at hl 3 rfl) ?_
  refine lv_aload_n hx hb dl_1347 rfl (lv_at hl 1 rfl) ?_
  refine lv_iload hx hb dl_1348 (lv_at hl 5 rfl) ?_
  refine lv_iconst (v := 1) hx hb dl_1350 (by decide) ?_
  refine lv_iadd hx hb dl_1351 ?_
  refine va_sld hx hb hX hbl hbA hw.1.2.2.2.1 (hin 1 (by decide) (by decide)) dl_1352 ?_
  refine hl_calliM hw (hm_runV (rest := []) hCl_true X hw.2.1 (cM_search h) ykM_search kw1836 rfl LM_0 rfl hl.1 rfl rfl rfl (Nat.le_of_ble_eq_true rfl) ⟨by decide, by decide⟩ ⟨by omega, by omega⟩ dl_1353) (fun rb u H locs hp hw => ?_)
  obtain ⟨IM2, rfl, h⟩ := hp
  refine lv_istore (lv' := [(6, _), (5, _), (0, _), (1, _), (2, _), (3, _), (4, _)]) hx hb dl_1356 hl (by decide) rfl (fun ls hl => ?_)
  refine lv_aload_n hx hb dl_1358 rfl (lv_at hl 4 rfl) ?_
  refine hl_calliM hw (hm_runV (rest := []) hCl_true X hw.2.1 (cM_thrown h) ykM_thrown kw1575 rfl LM_0 rfl hl.1 rfl rfl rfl (Nat.le_of_ble_eq_true rfl) ⟨by decide, by decide⟩ ⟨by omega, by omega⟩ dl_1359) (fun rt u H locs hp hw => ?_)
  obtain ⟨rfl, h⟩ := hp
  refine lv_iload hx hb dl_1362 (lv_at hl 1 rfl) ?_
  refine lv_icmp_eq (tgt := 1369) hx hb dl_1364 (by decide) (fun hc => ?_) (fun hc => ?_)
  rotate_left
  · exact absurd h.1 hc
  have h := h.2
  refine lv_iload hx hb dl_1369 (lv_at hl 1 rfl) ?_
  refine lv_if_ne (tgt := 1386) hx hb dl_1371 (by decide) (fun hc => ?_) (fun hc => ?_)
  · have h := h.2
    refine lv_goto (tgt := 1771) hx hb dl_1386 (by decide) ?_
    refine W.widen (k := cl + 90) (n := sl + 9000) (by omega) (by omega) ?_
    exact hK _ _ _ h hw (lv_sub hl [2, 3, 4, 5, 6] rfl)
  have hj := h.1 hc
  have h := h.2
  refine lv_aload_n hx hb dl_1374 rfl (lv_at hl 5 rfl) ?_
  refine lv_iconst (v := 0) hx hb dl_1375 (by decide) ?_
  refine hm_lald X hw.1 ho (by unfold vp_in; decide) dl_1376 ?_
  refine lv_iload hx hb dl_1377 (lv_at hl 0 rfl) ?_
  refine lv_i2l (v := Int32.toInt64 rb) hx hb dl_1379 rfl ?_
  refine W.lcmp hx hb dl_1380 ?_
  refine lv_if_eq (tgt := 1386) hx hb dl_1381 (by decide) (fun hc => ?_) (fun hc => ?_)
  rotate_left
  · exact absurd (hl_cmp_eq hj) hc
  refine lv_goto (tgt := 1771) hx hb dl_1386 (by decide) ?_
  refine W.widen (k := cl + 90) (n := sl + 9000) (by omega) (by omega) ?_
  exact hK _ _ _ h hw (lv_sub hl [2, 3, 4, 5, 6] rfl)
theorem wl_steps {p : Program} {l : Launch} {e : Env} {s : State} {m : MethodId} {below : List Frame} {meth : Method} {c : Code} {H : Heap} {locs : List Loc} {cl sl : Nat} {Qz : State → Prop} {ls : Array Slot} {D : va_G} {cA : Nat → ClassId} {zC zM ro b Ln : Nat} {xs : Nat → Int32} {i : Int32} {I : HI} {J : HJ} {T F TM : HR} {L : HL} {IM : HI} {JM : HJ} {A : Nat → Prop} {K : HS → HI → HJ → Prop} (hx : p.tables.exec = Jvm.exec) (hb : c.code = code) (X : hX p m c s #[Value.ref b] R_law code 8) (hlt : l.stackTraces = false) (hX : va_X b Ln xs s s.heap) (hbl : b < s.heap.size) (hbA : ¬ A b) (hin : ∀ j : Int32, j < 6 → ¬ j < 0 → vp_in (i + j) Ln) (hG : Geo F L) (ho : (ro, 4, 1) ∈ L) (hc1 : cl + 90 ≤ room_1.cells) (hs1 : sl + 9000 ≤ room_1.slots) (hK : ∀ (SC : HS) (IM : HI) (JM : HJ) {ls : Array Slot} {H : Heap} {locs : List Loc}, K SC IM JM → hW2 D cA zC zM SC (IM, JM, TM, FM, LM) A s H locs → lv_has ls 8 [(0, .ref b), (1, .ref (zC + 0)), (2, .ref (zM + 0)), (3, .ref (zC + ro)), (4, .int i)] → W p l e room_1 s m #[Value.ref b] below meth c H locs (cl + 90) (sl + 9000) Qz (F0 m 1771 ls [])) (hw : hW2 D cA zC zM (I, J, T, F, L) (IM, JM, TM, FM, LM) A s H locs) (hl : lv_has ls 8 [(0, .ref b), (1, .ref (zC + 0)), (2, .ref (zM + 0)), (3, .ref (zC + ro)), (4, .int i)]) (h : St_steps I J T F L ro IM JM K) : W p l e room_1 s m #[Value.ref b] below meth c H locs cl sl Qz (F0 m 1389 ls []) := by
  unfold St_steps at h
  refine lv_aload_n hx hb dl_1389 rfl (lv_at hl 1 rfl) ?_
  refine hl_calliC hw (hm_runV (rest := []) EvC_cl X hw.1 (cH_steps EvC_cl hG h) yk_X10_steps kw659 rfl (gl_0 hG) rfl hl.1 rfl rfl rfl (Nat.le_of_ble_eq_true rfl) ⟨by decide, by decide⟩ ⟨by omega, by omega⟩ dl_1390) (fun ra u H locs hp hw => ?_)
  obtain ⟨rfl, h⟩ := hp
  refine lv_aload_n hx hb dl_1393 rfl (lv_at hl 2 rfl) ?_
  refine hl_calliM hw (hm_runV (rest := [_]) hCl_true X hw.2.1 (cM_steps h) ykM_steps kw1855 rfl LM_0 rfl hl.1 rfl rfl rfl (Nat.le_of_ble_eq_true rfl) ⟨by decide, by decide⟩ ⟨by omega, by omega⟩ dl_1394) (fun rb u H locs hp hw => ?_)
  obtain ⟨IM2, rfl, h⟩ := hp
  refine lv_icmp_eq (tgt := 1771) hx hb dl_1397 (by decide) (fun hc => ?_) (fun hc => ?_)
  · have h := h.2
    refine W.widen (k := cl + 90) (n := sl + 9000) (by omega) (by omega) ?_
    exact hK _ _ _ h hw (lv_sub hl [0, 1, 2, 3, 4] rfl)
  · exact absurd h.1 hc
theorem wl_sums {p : Program} {l : Launch} {e : Env} {s : State} {m : MethodId} {below : List Frame} {meth : Method} {c : Code} {H : Heap} {locs : List Loc} {cl sl : Nat} {Qz : State → Prop} {ls : Array Slot} {D : va_G} {cA : Nat → ClassId} {zC zM ro b Ln : Nat} {xs : Nat → Int32} {i : Int32} {I : HI} {J : HJ} {T F TM : HR} {L : HL} {IM : HI} {JM : HJ} {A : Nat → Prop} {K : HS → HI → HJ → Prop} (hx : p.tables.exec = Jvm.exec) (hb : c.code = code) (X : hX p m c s #[Value.ref b] R_law code 8) (hlt : l.stackTraces = false) (hX : va_X b Ln xs s s.heap) (hbl : b < s.heap.size) (hbA : ¬ A b) (hin : ∀ j : Int32, j < 6 → ¬ j < 0 → vp_in (i + j) Ln) (hG : Geo F L) (ho : (ro, 4, 1) ∈ L) (hc1 : cl + 90 ≤ room_1.cells) (hs1 : sl + 9000 ≤ room_1.slots) (hK : ∀ (SC : HS) (IM : HI) (JM : HJ) {ls : Array Slot} {H : Heap} {locs : List Loc}, K SC IM JM → hW2 D cA zC zM SC (IM, JM, TM, FM, LM) A s H locs → lv_has ls 8 [(0, .ref b), (1, .ref (zC + 0)), (2, .ref (zM + 0)), (3, .ref (zC + ro)), (4, .int i)] → W p l e room_1 s m #[Value.ref b] below meth c H locs (cl + 90) (sl + 9000) Qz (F0 m 1771 ls [])) (hw : hW2 D cA zC zM (I, J, T, F, L) (IM, JM, TM, FM, LM) A s H locs) (hl : lv_has ls 8 [(0, .ref b), (1, .ref (zC + 0)), (2, .ref (zM + 0)), (3, .ref (zC + ro)), (4, .int i)]) (h : St_sums I J T F L ro IM JM K) : W p l e room_1 s m #[Value.ref b] below meth c H locs cl sl Qz (F0 m 1402 ls []) := by
  unfold St_sums at h
  refine lv_aload_n hx hb dl_1402 rfl (lv_at hl 1 rfl) ?_
  refine lv_aload_n hx hb dl_1403 rfl (lv_at hl 3 rfl) ?_
  refine hl_calliC hw (hm_runSW (rest := []) EvC_cl X hw.1 (kL_sums hlt hG ho h) yw_sums kw1199 rfl hl.1 rfl rfl rfl (Nat.le_of_ble_eq_true rfl) ⟨by decide, by decide⟩ ⟨by omega, by omega⟩ dl_1404) (fun rk u H locs hp hw => ?_)
  obtain ⟨I2, J2, T2, F2, L2⟩ := u
  obtain ⟨ho, h⟩ := hp
  replace ho : (ro, 4, 1) ∈ L2 := ho
  refine lv_istore (lv' := [(5, _), (0, _), (1, _), (2, _), (3, _), (4, _)]) hx hb dl_1407 hl (by decide) rfl (fun ls hl => ?_)
  refine lv_aload_n hx hb dl_1409 rfl (lv_at hl 3 rfl) ?_
  refine hl_calliM hw (hm_runV (rest := []) hCl_true X hw.2.1 (cM_sums h) ykM_sums kw1859 rfl LM_0 rfl hl.1 rfl rfl rfl (Nat.le_of_ble_eq_true rfl) ⟨by decide, by decide⟩ ⟨by omega, by omega⟩ dl_1410) (fun rb u H locs hp hw => ?_)
  obtain ⟨IM2, rfl, h⟩ := hp
  refine lv_istore (lv' := [(6, _), (5, _), (0, _), (1, _), (2, _), (3, _), (4, _)]) hx hb dl_1413 hl (by decide) rfl (fun ls hl => ?_)
  refine lv_aload_n hx hb dl_1415 rfl (lv_at hl 4 rfl) ?_
  refine hl_calliM hw (hm_runV (rest := []) hCl_true X hw.2.1 (cM_thrown h) ykM_thrown kw1575 rfl LM_0 rfl hl.1 rfl rfl rfl (Nat.le_of_ble_eq_true rfl) ⟨by decide, by decide⟩ ⟨by omega, by omega⟩ dl_1416) (fun rt u H locs hp hw => ?_)
  obtain ⟨rfl, h⟩ := hp
  refine lv_iload hx hb dl_1419 (lv_at hl 1 rfl) ?_
  refine lv_icmp_eq (tgt := 1426) hx hb dl_1421 (by decide) (fun hc => ?_) (fun hc => ?_)
  rotate_left
  · exact absurd h.1 hc
  have h := h.2
  refine lv_iload hx hb dl_1426 (lv_at hl 1 rfl) ?_
  refine lv_if_ne (tgt := 1443) hx hb dl_1428 (by decide) (fun hc => ?_) (fun hc => ?_)
  · have h := h.2
    refine lv_goto (tgt := 1771) hx hb dl_1443 (by decide) ?_
    refine W.widen (k := cl + 90) (n := sl + 9000) (by omega) (by omega) ?_
    exact hK _ _ _ h hw (lv_sub hl [2, 3, 4, 5, 6] rfl)
  have hj := h.1 hc
  have h := h.2
  refine lv_aload_n hx hb dl_1431 rfl (lv_at hl 5 rfl) ?_
  refine lv_iconst (v := 0) hx hb dl_1432 (by decide) ?_
  refine hm_lald X hw.1 ho (by unfold vp_in; decide) dl_1433 ?_
  refine lv_iload hx hb dl_1434 (lv_at hl 0 rfl) ?_
  refine lv_i2l (v := Int32.toInt64 rb) hx hb dl_1436 rfl ?_
  refine W.lcmp hx hb dl_1437 ?_
  refine lv_if_eq (tgt := 1443) hx hb dl_1438 (by decide) (fun hc => ?_) (fun hc => ?_)
  rotate_left
  · exact absurd (hl_cmp_eq hj) hc
  refine lv_goto (tgt := 1771) hx hb dl_1443 (by decide) ?_
  refine W.widen (k := cl + 90) (n := sl + 9000) (by omega) (by omega) ?_
  exact hK _ _ _ h hw (lv_sub hl [2, 3, 4, 5, 6] rfl)
theorem wl_constant {p : Program} {l : Launch} {e : Env} {s : State} {m : MethodId} {below : List Frame} {meth : Method} {c : Code} {H : Heap} {locs : List Loc} {cl sl : Nat} {Qz : State → Prop} {ls : Array Slot} {D : va_G} {cA : Nat → ClassId} {zC zM ro b Ln : Nat} {xs : Nat → Int32} {i : Int32} {I : HI} {J : HJ} {T F TM : HR} {L : HL} {IM : HI} {JM : HJ} {A : Nat → Prop} {K : HS → HI → HJ → Prop} (hx : p.tables.exec = Jvm.exec) (hb : c.code = code) (X : hX p m c s #[Value.ref b] R_law code 8) (hlt : l.stackTraces = false) (hX : va_X b Ln xs s s.heap) (hbl : b < s.heap.size) (hbA : ¬ A b) (hin : ∀ j : Int32, j < 6 → ¬ j < 0 → vp_in (i + j) Ln) (hG : Geo F L) (ho : (ro, 4, 1) ∈ L) (hc1 : cl + 90 ≤ room_1.cells) (hs1 : sl + 9000 ≤ room_1.slots) (hK : ∀ (SC : HS) (IM : HI) (JM : HJ) {ls : Array Slot} {H : Heap} {locs : List Loc}, K SC IM JM → hW2 D cA zC zM SC (IM, JM, TM, FM, LM) A s H locs → lv_has ls 8 [(0, .ref b), (1, .ref (zC + 0)), (2, .ref (zM + 0)), (3, .ref (zC + ro)), (4, .int i)] → W p l e room_1 s m #[Value.ref b] below meth c H locs (cl + 90) (sl + 9000) Qz (F0 m 1771 ls [])) (hw : hW2 D cA zC zM (I, J, T, F, L) (IM, JM, TM, FM, LM) A s H locs) (hl : lv_has ls 8 [(0, .ref b), (1, .ref (zC + 0)), (2, .ref (zM + 0)), (3, .ref (zC + ro)), (4, .int i)]) (h : St_constant (xs (nx (i + 1))) I J T F L ro IM JM K) : W p l e room_1 s m #[Value.ref b] below meth c H locs cl sl Qz (F0 m 1446 ls []) := by
  unfold St_constant at h
  refine lv_aload_n hx hb dl_1446 rfl (lv_at hl 1 rfl) ?_
  refine lv_aload_n hx hb dl_1447 rfl (lv_at hl 0 rfl) ?_
  refine lv_iload hx hb dl_1448 (lv_at hl 4 rfl) ?_
  refine lv_iconst (v := 1) hx hb dl_1450 (by decide) ?_
  refine lv_iadd hx hb dl_1451 ?_
  refine va_sld hx hb hX hbl hbA hw.1.2.2.2.1 (hin 1 (by decide) (by decide)) dl_1452 ?_
  refine lv_aload_n hx hb dl_1453 rfl (lv_at hl 3 rfl) ?_
  refine hl_calliC hw (hm_runSW (rest := []) EvC_cl X hw.1 (kL_constant hlt hG ho h) yw_constant kw1245 rfl hl.1 rfl rfl rfl (Nat.le_of_ble_eq_true rfl) ⟨by decide, by decide⟩ ⟨by omega, by omega⟩ dl_1454) (fun rk u H locs hp hw => ?_)
  obtain ⟨I2, J2, T2, F2, L2⟩ := u
  obtain ⟨ho, h⟩ := hp
  replace ho : (ro, 4, 1) ∈ L2 := ho
  refine lv_istore (lv' := [(5, _), (0, _), (1, _), (2, _), (3, _), (4, _)]) hx hb dl_1457 hl (by decide) rfl (fun ls hl => ?_)
  refine lv_aload_n hx hb dl_1459 rfl (lv_at hl 3 rfl) ?_
  refine lv_aload_n hx hb dl_1460 rfl (lv_at hl 1 rfl) ?_
  refine lv_iload hx hb dl_1461 (lv_at hl 5 rfl) ?_
  refine lv_iconst (v := 1) hx hb dl_1463 (by decide) ?_
  refine lv_iadd hx hb dl_1464 ?_
  refine va_sld hx hb hX hbl hbA hw.1.2.2.2.1 (hin 1 (by decide) (by decide)) dl_1465 ?_
  refine hl_calliM hw (hm_runV (rest := []) hCl_true X hw.2.1 (cM_constant h) ykM_constant kw1867 rfl LM_0 rfl hl.1 rfl rfl rfl (Nat.le_of_ble_eq_true rfl) ⟨by decide, by decide⟩ ⟨by omega, by omega⟩ dl_1466) (fun rb u H locs hp hw => ?_)
  obtain ⟨IM2, rfl, h⟩ := hp
  refine lv_istore (lv' := [(6, _), (5, _), (0, _), (1, _), (2, _), (3, _), (4, _)]) hx hb dl_1469 hl (by decide) rfl (fun ls hl => ?_)
  refine lv_aload_n hx hb dl_1471 rfl (lv_at hl 4 rfl) ?_
  refine hl_calliM hw (hm_runV (rest := []) hCl_true X hw.2.1 (cM_thrown h) ykM_thrown kw1575 rfl LM_0 rfl hl.1 rfl rfl rfl (Nat.le_of_ble_eq_true rfl) ⟨by decide, by decide⟩ ⟨by omega, by omega⟩ dl_1472) (fun rt u H locs hp hw => ?_)
  obtain ⟨rfl, h⟩ := hp
  refine lv_iload hx hb dl_1475 (lv_at hl 1 rfl) ?_
  refine lv_icmp_eq (tgt := 1482) hx hb dl_1477 (by decide) (fun hc => ?_) (fun hc => ?_)
  rotate_left
  · exact absurd h.1 hc
  have h := h.2
  refine lv_iload hx hb dl_1482 (lv_at hl 1 rfl) ?_
  refine lv_if_ne (tgt := 1499) hx hb dl_1484 (by decide) (fun hc => ?_) (fun hc => ?_)
  · have h := h.2
    refine lv_goto (tgt := 1771) hx hb dl_1499 (by decide) ?_
    refine W.widen (k := cl + 90) (n := sl + 9000) (by omega) (by omega) ?_
    exact hK _ _ _ h hw (lv_sub hl [2, 3, 4, 5, 6] rfl)
  have hj := h.1 hc
  have h := h.2
  refine lv_aload_n hx hb dl_1487 rfl (lv_at hl 5 rfl) ?_
  refine lv_iconst (v := 0) hx hb dl_1488 (by decide) ?_
  refine hm_lald X hw.1 ho (by unfold vp_in; decide) dl_1489 ?_
  refine lv_iload hx hb dl_1490 (lv_at hl 0 rfl) ?_
  refine lv_i2l (v := Int32.toInt64 rb) hx hb dl_1492 rfl ?_
  refine W.lcmp hx hb dl_1493 ?_
  refine lv_if_eq (tgt := 1499) hx hb dl_1494 (by decide) (fun hc => ?_) (fun hc => ?_)
  rotate_left
  · exact absurd (hl_cmp_eq hj) hc
  refine lv_goto (tgt := 1771) hx hb dl_1499 (by decide) ?_
  refine W.widen (k := cl + 90) (n := sl + 9000) (by omega) (by omega) ?_
  exact hK _ _ _ h hw (lv_sub hl [2, 3, 4, 5, 6] rfl)
theorem wl_cover {p : Program} {l : Launch} {e : Env} {s : State} {m : MethodId} {below : List Frame} {meth : Method} {c : Code} {H : Heap} {locs : List Loc} {cl sl : Nat} {Qz : State → Prop} {ls : Array Slot} {D : va_G} {cA : Nat → ClassId} {zC zM ro b Ln : Nat} {xs : Nat → Int32} {i : Int32} {I : HI} {J : HJ} {T F TM : HR} {L : HL} {IM : HI} {JM : HJ} {A : Nat → Prop} {K : HS → HI → HJ → Prop} (hx : p.tables.exec = Jvm.exec) (hb : c.code = code) (X : hX p m c s #[Value.ref b] R_law code 8) (hlt : l.stackTraces = false) (hX : va_X b Ln xs s s.heap) (hbl : b < s.heap.size) (hbA : ¬ A b) (hin : ∀ j : Int32, j < 6 → ¬ j < 0 → vp_in (i + j) Ln) (hG : Geo F L) (ho : (ro, 4, 1) ∈ L) (hc1 : cl + 90 ≤ room_1.cells) (hs1 : sl + 9000 ≤ room_1.slots) (hK : ∀ (SC : HS) (IM : HI) (JM : HJ) {ls : Array Slot} {H : Heap} {locs : List Loc}, K SC IM JM → hW2 D cA zC zM SC (IM, JM, TM, FM, LM) A s H locs → lv_has ls 8 [(0, .ref b), (1, .ref (zC + 0)), (2, .ref (zM + 0)), (3, .ref (zC + ro)), (4, .int i)] → W p l e room_1 s m #[Value.ref b] below meth c H locs (cl + 90) (sl + 9000) Qz (F0 m 1771 ls [])) (hw : hW2 D cA zC zM (I, J, T, F, L) (IM, JM, TM, FM, LM) A s H locs) (hl : lv_has ls 8 [(0, .ref b), (1, .ref (zC + 0)), (2, .ref (zM + 0)), (3, .ref (zC + ro)), (4, .int i)]) (h : St_cover I J T F L ro IM JM K) : W p l e room_1 s m #[Value.ref b] below meth c H locs cl sl Qz (F0 m 1502 ls []) := by
  unfold St_cover at h
  refine lv_aload_n hx hb dl_1502 rfl (lv_at hl 1 rfl) ?_
  refine hl_calliC hw (hm_runV (rest := []) EvC_cl X hw.1 (cH_cover EvC_cl hG h) yk_X10_cover kw663 rfl (gl_0 hG) rfl hl.1 rfl rfl rfl (Nat.le_of_ble_eq_true rfl) ⟨by decide, by decide⟩ ⟨by omega, by omega⟩ dl_1503) (fun ra u H locs hp hw => ?_)
  obtain ⟨I2, T2, rfl, h⟩ := hp
  refine lv_aload_n hx hb dl_1506 rfl (lv_at hl 2 rfl) ?_
  refine hl_calliM hw (hm_runV (rest := [_]) hCl_true X hw.2.1 (cM_cover h) ykM_cover kw1871 rfl LM_0 rfl hl.1 rfl rfl rfl (Nat.le_of_ble_eq_true rfl) ⟨by decide, by decide⟩ ⟨by omega, by omega⟩ dl_1507) (fun rb u H locs hp hw => ?_)
  obtain ⟨IM2, rfl, h⟩ := hp
  refine lv_icmp_eq (tgt := 1771) hx hb dl_1510 (by decide) (fun hc => ?_) (fun hc => ?_)
  · have h := h.2
    refine W.widen (k := cl + 90) (n := sl + 9000) (by omega) (by omega) ?_
    exact hK _ _ _ h hw (lv_sub hl [0, 1, 2, 3, 4] rfl)
  · exact absurd h.1 hc
theorem wl_given {p : Program} {l : Launch} {e : Env} {s : State} {m : MethodId} {below : List Frame} {meth : Method} {c : Code} {H : Heap} {locs : List Loc} {cl sl : Nat} {Qz : State → Prop} {ls : Array Slot} {D : va_G} {cA : Nat → ClassId} {zC zM ro b Ln : Nat} {xs : Nat → Int32} {i : Int32} {I : HI} {J : HJ} {T F TM : HR} {L : HL} {IM : HI} {JM : HJ} {A : Nat → Prop} {K : HS → HI → HJ → Prop} (hx : p.tables.exec = Jvm.exec) (hb : c.code = code) (X : hX p m c s #[Value.ref b] R_law code 8) (hlt : l.stackTraces = false) (hX : va_X b Ln xs s s.heap) (hbl : b < s.heap.size) (hbA : ¬ A b) (hin : ∀ j : Int32, j < 6 → ¬ j < 0 → vp_in (i + j) Ln) (hG : Geo F L) (ho : (ro, 4, 1) ∈ L) (hc1 : cl + 90 ≤ room_1.cells) (hs1 : sl + 9000 ≤ room_1.slots) (hK : ∀ (SC : HS) (IM : HI) (JM : HJ) {ls : Array Slot} {H : Heap} {locs : List Loc}, K SC IM JM → hW2 D cA zC zM SC (IM, JM, TM, FM, LM) A s H locs → lv_has ls 8 [(0, .ref b), (1, .ref (zC + 0)), (2, .ref (zM + 0)), (3, .ref (zC + ro)), (4, .int i)] → W p l e room_1 s m #[Value.ref b] below meth c H locs (cl + 90) (sl + 9000) Qz (F0 m 1771 ls [])) (hw : hW2 D cA zC zM (I, J, T, F, L) (IM, JM, TM, FM, LM) A s H locs) (hl : lv_has ls 8 [(0, .ref b), (1, .ref (zC + 0)), (2, .ref (zM + 0)), (3, .ref (zC + ro)), (4, .int i)]) (h : St_given (xs (nx (i + 1))) I J T F L ro IM JM K) : W p l e room_1 s m #[Value.ref b] below meth c H locs cl sl Qz (F0 m 1515 ls []) := by
  unfold St_given at h
  refine lv_aload_n hx hb dl_1515 rfl (lv_at hl 1 rfl) ?_
  refine lv_aload_n hx hb dl_1516 rfl (lv_at hl 0 rfl) ?_
  refine lv_iload hx hb dl_1517 (lv_at hl 4 rfl) ?_
  refine lv_iconst (v := 1) hx hb dl_1519 (by decide) ?_
  refine lv_iadd hx hb dl_1520 ?_
  refine va_sld hx hb hX hbl hbA hw.1.2.2.2.1 (hin 1 (by decide) (by decide)) dl_1521 ?_
  refine lv_aload_n hx hb dl_1522 rfl (lv_at hl 3 rfl) ?_
  refine hl_calliC hw (hm_runSW (rest := []) EvC_cl X hw.1 (kL_given hlt hG ho h) yw_given kw1253 rfl hl.1 rfl rfl rfl (Nat.le_of_ble_eq_true rfl) ⟨by decide, by decide⟩ ⟨by omega, by omega⟩ dl_1523) (fun rk u H locs hp hw => ?_)
  obtain ⟨I2, J2, T2, F2, L2⟩ := u
  obtain ⟨ho, h⟩ := hp
  replace ho : (ro, 4, 1) ∈ L2 := ho
  refine lv_istore (lv' := [(5, _), (0, _), (1, _), (2, _), (3, _), (4, _)]) hx hb dl_1526 hl (by decide) rfl (fun ls hl => ?_)
  refine lv_aload_n hx hb dl_1528 rfl (lv_at hl 3 rfl) ?_
  refine lv_aload_n hx hb dl_1529 rfl (lv_at hl 1 rfl) ?_
  refine lv_iload hx hb dl_1530 (lv_at hl 5 rfl) ?_
  refine lv_iconst (v := 1) hx hb dl_1532 (by decide) ?_
  refine lv_iadd hx hb dl_1533 ?_
  refine va_sld hx hb hX hbl hbA hw.1.2.2.2.1 (hin 1 (by decide) (by decide)) dl_1534 ?_
  refine hl_calliM hw (hm_runV (rest := []) hCl_true X hw.2.1 (cM_given h) ykM_given kw1894 rfl LM_0 rfl hl.1 rfl rfl rfl (Nat.le_of_ble_eq_true rfl) ⟨by decide, by decide⟩ ⟨by omega, by omega⟩ dl_1535) (fun rb u H locs hp hw => ?_)
  obtain ⟨IM2, rfl, h⟩ := hp
  refine lv_istore (lv' := [(6, _), (5, _), (0, _), (1, _), (2, _), (3, _), (4, _)]) hx hb dl_1538 hl (by decide) rfl (fun ls hl => ?_)
  refine lv_aload_n hx hb dl_1540 rfl (lv_at hl 4 rfl) ?_
  refine hl_calliM hw (hm_runV (rest := []) hCl_true X hw.2.1 (cM_thrown h) ykM_thrown kw1575 rfl LM_0 rfl hl.1 rfl rfl rfl (Nat.le_of_ble_eq_true rfl) ⟨by decide, by decide⟩ ⟨by omega, by omega⟩ dl_1541) (fun rt u H locs hp hw => ?_)
  obtain ⟨rfl, h⟩ := hp
  refine lv_iload hx hb dl_1544 (lv_at hl 1 rfl) ?_
  refine lv_icmp_eq (tgt := 1551) hx hb dl_1546 (by decide) (fun hc => ?_) (fun hc => ?_)
  rotate_left
  · exact absurd h.1 hc
  have h := h.2
  refine lv_iload hx hb dl_1551 (lv_at hl 1 rfl) ?_
  refine lv_if_ne (tgt := 1568) hx hb dl_1553 (by decide) (fun hc => ?_) (fun hc => ?_)
  · have h := h.2
    refine lv_goto (tgt := 1771) hx hb dl_1568 (by decide) ?_
    refine W.widen (k := cl + 90) (n := sl + 9000) (by omega) (by omega) ?_
    exact hK _ _ _ h hw (lv_sub hl [2, 3, 4, 5, 6] rfl)
  have hj := h.1 hc
  have h := h.2
  refine lv_aload_n hx hb dl_1556 rfl (lv_at hl 5 rfl) ?_
  refine lv_iconst (v := 0) hx hb dl_1557 (by decide) ?_
  refine hm_lald X hw.1 ho (by unfold vp_in; decide) dl_1558 ?_
  refine lv_iload hx hb dl_1559 (lv_at hl 0 rfl) ?_
  refine lv_i2l (v := Int32.toInt64 rb) hx hb dl_1561 rfl ?_
  refine W.lcmp hx hb dl_1562 ?_
  refine lv_if_eq (tgt := 1568) hx hb dl_1563 (by decide) (fun hc => ?_) (fun hc => ?_)
  rotate_left
  · exact absurd (hl_cmp_eq hj) hc
  refine lv_goto (tgt := 1771) hx hb dl_1568 (by decide) ?_
  refine W.widen (k := cl + 90) (n := sl + 9000) (by omega) (by omega) ?_
  exact hK _ _ _ h hw (lv_sub hl [2, 3, 4, 5, 6] rfl)
theorem wl_line {p : Program} {l : Launch} {e : Env} {s : State} {m : MethodId} {below : List Frame} {meth : Method} {c : Code} {H : Heap} {locs : List Loc} {cl sl : Nat} {Qz : State → Prop} {ls : Array Slot} {D : va_G} {cA : Nat → ClassId} {zC zM ro b Ln : Nat} {xs : Nat → Int32} {i : Int32} {I : HI} {J : HJ} {T F TM : HR} {L : HL} {IM : HI} {JM : HJ} {A : Nat → Prop} {K : HS → HI → HJ → Prop} (hx : p.tables.exec = Jvm.exec) (hb : c.code = code) (X : hX p m c s #[Value.ref b] R_law code 8) (hlt : l.stackTraces = false) (hX : va_X b Ln xs s s.heap) (hbl : b < s.heap.size) (hbA : ¬ A b) (hin : ∀ j : Int32, j < 6 → ¬ j < 0 → vp_in (i + j) Ln) (hG : Geo F L) (ho : (ro, 4, 1) ∈ L) (hc1 : cl + 90 ≤ room_1.cells) (hs1 : sl + 9000 ≤ room_1.slots) (hK : ∀ (SC : HS) (IM : HI) (JM : HJ) {ls : Array Slot} {H : Heap} {locs : List Loc}, K SC IM JM → hW2 D cA zC zM SC (IM, JM, TM, FM, LM) A s H locs → lv_has ls 8 [(0, .ref b), (1, .ref (zC + 0)), (2, .ref (zM + 0)), (3, .ref (zC + ro)), (4, .int i)] → W p l e room_1 s m #[Value.ref b] below meth c H locs (cl + 90) (sl + 9000) Qz (F0 m 1771 ls [])) (hw : hW2 D cA zC zM (I, J, T, F, L) (IM, JM, TM, FM, LM) A s H locs) (hl : lv_has ls 8 [(0, .ref b), (1, .ref (zC + 0)), (2, .ref (zM + 0)), (3, .ref (zC + ro)), (4, .int i)]) (h : St_line I J T F L ro IM JM K) : W p l e room_1 s m #[Value.ref b] below meth c H locs cl sl Qz (F0 m 1571 ls []) := by
  unfold St_line at h
  refine lv_aload_n hx hb dl_1571 rfl (lv_at hl 1 rfl) ?_
  refine hl_calliC hw (hm_runV (rest := []) EvC_cl X hw.1 (cH_line hlt hG h) yk_X10_line kw705 rfl (gl_0 hG) rfl hl.1 rfl rfl rfl (Nat.le_of_ble_eq_true rfl) ⟨by decide, by decide⟩ ⟨by omega, by omega⟩ dl_1572) (fun ra u H locs hp hw => ?_)
  obtain ⟨I2, T2, F2, L2, rfl, h⟩ := hp
  refine lv_aload_n hx hb dl_1575 rfl (lv_at hl 2 rfl) ?_
  refine hl_calliM hw (hm_runV (rest := [_]) hCl_true X hw.2.1 (cM_line h) ykM_line kw1898 rfl LM_0 rfl hl.1 rfl rfl rfl (Nat.le_of_ble_eq_true rfl) ⟨by decide, by decide⟩ ⟨by omega, by omega⟩ dl_1576) (fun rb u H locs hp hw => ?_)
  obtain ⟨IM2, rfl, h⟩ := hp
  refine lv_icmp_eq (tgt := 1771) hx hb dl_1579 (by decide) (fun hc => ?_) (fun hc => ?_)
  · have h := h.2
    refine W.widen (k := cl + 90) (n := sl + 9000) (by omega) (by omega) ?_
    exact hK _ _ _ h hw (lv_sub hl [0, 1, 2, 3, 4] rfl)
  · exact absurd h.1 hc
theorem wl_mend {p : Program} {l : Launch} {e : Env} {s : State} {m : MethodId} {below : List Frame} {meth : Method} {c : Code} {H : Heap} {locs : List Loc} {cl sl : Nat} {Qz : State → Prop} {ls : Array Slot} {D : va_G} {cA : Nat → ClassId} {zC zM ro b Ln : Nat} {xs : Nat → Int32} {i : Int32} {I : HI} {J : HJ} {T F TM : HR} {L : HL} {IM : HI} {JM : HJ} {A : Nat → Prop} {K : HS → HI → HJ → Prop} (hx : p.tables.exec = Jvm.exec) (hb : c.code = code) (X : hX p m c s #[Value.ref b] R_law code 8) (hlt : l.stackTraces = false) (hX : va_X b Ln xs s s.heap) (hbl : b < s.heap.size) (hbA : ¬ A b) (hin : ∀ j : Int32, j < 6 → ¬ j < 0 → vp_in (i + j) Ln) (hG : Geo F L) (ho : (ro, 4, 1) ∈ L) (hc1 : cl + 90 ≤ room_1.cells) (hs1 : sl + 9000 ≤ room_1.slots) (hK : ∀ (SC : HS) (IM : HI) (JM : HJ) {ls : Array Slot} {H : Heap} {locs : List Loc}, K SC IM JM → hW2 D cA zC zM SC (IM, JM, TM, FM, LM) A s H locs → lv_has ls 8 [(0, .ref b), (1, .ref (zC + 0)), (2, .ref (zM + 0)), (3, .ref (zC + ro)), (4, .int i)] → W p l e room_1 s m #[Value.ref b] below meth c H locs (cl + 90) (sl + 9000) Qz (F0 m 1771 ls [])) (hw : hW2 D cA zC zM (I, J, T, F, L) (IM, JM, TM, FM, LM) A s H locs) (hl : lv_has ls 8 [(0, .ref b), (1, .ref (zC + 0)), (2, .ref (zM + 0)), (3, .ref (zC + ro)), (4, .int i)]) (h : St_mend (xs (nx (i + 1))) I J T F L ro IM JM K) : W p l e room_1 s m #[Value.ref b] below meth c H locs cl sl Qz (F0 m 1584 ls []) := by
  unfold St_mend at h
  refine lv_aload_n hx hb dl_1584 rfl (lv_at hl 1 rfl) ?_
  refine lv_aload_n hx hb dl_1585 rfl (lv_at hl 0 rfl) ?_
  refine lv_iload hx hb dl_1586 (lv_at hl 4 rfl) ?_
  refine lv_iconst (v := 1) hx hb dl_1588 (by decide) ?_
  refine lv_iadd hx hb dl_1589 ?_
  refine va_sld hx hb hX hbl hbA hw.1.2.2.2.1 (hin 1 (by decide) (by decide)) dl_1590 ?_
  refine lv_aload_n hx hb dl_1591 rfl (lv_at hl 3 rfl) ?_
  refine hl_calliC hw (hm_runSW (rest := []) EvC_cl X hw.1 (kL_mend hlt hG ho h) yw_mend kw1261 rfl hl.1 rfl rfl rfl (Nat.le_of_ble_eq_true rfl) ⟨by decide, by decide⟩ ⟨by omega, by omega⟩ dl_1592) (fun rk u H locs hp hw => ?_)
  obtain ⟨I2, J2, T2, F2, L2⟩ := u
  obtain ⟨ho, h⟩ := hp
  replace ho : (ro, 4, 1) ∈ L2 := ho
  refine lv_istore (lv' := [(5, _), (0, _), (1, _), (2, _), (3, _), (4, _)]) hx hb dl_1595 hl (by decide) rfl (fun ls hl => ?_)
  refine lv_aload_n hx hb dl_1597 rfl (lv_at hl 3 rfl) ?_
  refine lv_aload_n hx hb dl_1598 rfl (lv_at hl 1 rfl) ?_
  refine lv_iload hx hb dl_1599 (lv_at hl 5 rfl) ?_
  refine lv_iconst (v := 1) hx hb dl_1601 (by decide) ?_
  refine lv_iadd hx hb dl_1602 ?_
  refine va_sld hx hb hX hbl hbA hw.1.2.2.2.1 (hin 1 (by decide) (by decide)) dl_1603 ?_
  refine hl_calliM hw (hm_runV (rest := []) hCl_true X hw.2.1 (cM_mend h) ykM_mend kw1906 rfl LM_0 rfl hl.1 rfl rfl rfl (Nat.le_of_ble_eq_true rfl) ⟨by decide, by decide⟩ ⟨by omega, by omega⟩ dl_1604) (fun rb u H locs hp hw => ?_)
  obtain ⟨IM2, rfl, h⟩ := hp
  refine lv_istore (lv' := [(6, _), (5, _), (0, _), (1, _), (2, _), (3, _), (4, _)]) hx hb dl_1607 hl (by decide) rfl (fun ls hl => ?_)
  refine lv_aload_n hx hb dl_1609 rfl (lv_at hl 4 rfl) ?_
  refine hl_calliM hw (hm_runV (rest := []) hCl_true X hw.2.1 (cM_thrown h) ykM_thrown kw1575 rfl LM_0 rfl hl.1 rfl rfl rfl (Nat.le_of_ble_eq_true rfl) ⟨by decide, by decide⟩ ⟨by omega, by omega⟩ dl_1610) (fun rt u H locs hp hw => ?_)
  obtain ⟨rfl, h⟩ := hp
  refine lv_iload hx hb dl_1613 (lv_at hl 1 rfl) ?_
  refine lv_icmp_eq (tgt := 1620) hx hb dl_1615 (by decide) (fun hc => ?_) (fun hc => ?_)
  rotate_left
  · exact absurd h.1 hc
  have h := h.2
  refine lv_iload hx hb dl_1620 (lv_at hl 1 rfl) ?_
  refine lv_if_ne (tgt := 1637) hx hb dl_1622 (by decide) (fun hc => ?_) (fun hc => ?_)
  · have h := h.2
    refine lv_goto (tgt := 1771) hx hb dl_1637 (by decide) ?_
    refine W.widen (k := cl + 90) (n := sl + 9000) (by omega) (by omega) ?_
    exact hK _ _ _ h hw (lv_sub hl [2, 3, 4, 5, 6] rfl)
  have hj := h.1 hc
  have h := h.2
  refine lv_aload_n hx hb dl_1625 rfl (lv_at hl 5 rfl) ?_
  refine lv_iconst (v := 0) hx hb dl_1626 (by decide) ?_
  refine hm_lald X hw.1 ho (by unfold vp_in; decide) dl_1627 ?_
  refine lv_iload hx hb dl_1628 (lv_at hl 0 rfl) ?_
  refine lv_i2l (v := Int32.toInt64 rb) hx hb dl_1630 rfl ?_
  refine W.lcmp hx hb dl_1631 ?_
  refine lv_if_eq (tgt := 1637) hx hb dl_1632 (by decide) (fun hc => ?_) (fun hc => ?_)
  rotate_left
  · exact absurd (hl_cmp_eq hj) hc
  refine lv_goto (tgt := 1771) hx hb dl_1637 (by decide) ?_
  refine W.widen (k := cl + 90) (n := sl + 9000) (by omega) (by omega) ?_
  exact hK _ _ _ h hw (lv_sub hl [2, 3, 4, 5, 6] rfl)
theorem wl_draw {p : Program} {l : Launch} {e : Env} {s : State} {m : MethodId} {below : List Frame} {meth : Method} {c : Code} {H : Heap} {locs : List Loc} {cl sl : Nat} {Qz : State → Prop} {ls : Array Slot} {D : va_G} {cA : Nat → ClassId} {zC zM ro b Ln : Nat} {xs : Nat → Int32} {i : Int32} {I : HI} {J : HJ} {T F TM : HR} {L : HL} {IM : HI} {JM : HJ} {A : Nat → Prop} {K : HS → HI → HJ → Prop} (hx : p.tables.exec = Jvm.exec) (hb : c.code = code) (X : hX p m c s #[Value.ref b] R_law code 8) (hlt : l.stackTraces = false) (hX : va_X b Ln xs s s.heap) (hbl : b < s.heap.size) (hbA : ¬ A b) (hin : ∀ j : Int32, j < 6 → ¬ j < 0 → vp_in (i + j) Ln) (hG : Geo F L) (ho : (ro, 4, 1) ∈ L) (hc1 : cl + 90 ≤ room_1.cells) (hs1 : sl + 9000 ≤ room_1.slots) (hK : ∀ (SC : HS) (IM : HI) (JM : HJ) {ls : Array Slot} {H : Heap} {locs : List Loc}, K SC IM JM → hW2 D cA zC zM SC (IM, JM, TM, FM, LM) A s H locs → lv_has ls 8 [(0, .ref b), (1, .ref (zC + 0)), (2, .ref (zM + 0)), (3, .ref (zC + ro)), (4, .int i)] → W p l e room_1 s m #[Value.ref b] below meth c H locs (cl + 90) (sl + 9000) Qz (F0 m 1771 ls [])) (hw : hW2 D cA zC zM (I, J, T, F, L) (IM, JM, TM, FM, LM) A s H locs) (hl : lv_has ls 8 [(0, .ref b), (1, .ref (zC + 0)), (2, .ref (zM + 0)), (3, .ref (zC + ro)), (4, .int i)]) (h : St_draw (xs (nx (i + 1))) I J T F L ro IM JM K) : W p l e room_1 s m #[Value.ref b] below meth c H locs cl sl Qz (F0 m 1640 ls []) := by
  unfold St_draw at h
  refine lv_aload_n hx hb dl_1640 rfl (lv_at hl 1 rfl) ?_
  refine lv_aload_n hx hb dl_1641 rfl (lv_at hl 0 rfl) ?_
  refine lv_iload hx hb dl_1642 (lv_at hl 4 rfl) ?_
  refine lv_iconst (v := 1) hx hb dl_1644 (by decide) ?_
  refine lv_iadd hx hb dl_1645 ?_
  refine va_sld hx hb hX hbl hbA hw.1.2.2.2.1 (hin 1 (by decide) (by decide)) dl_1646 ?_
  refine hl_calliC hw (hm_runV (rest := []) EvC_cl X hw.1 (cH_draw EvC_cl hG h) yk_X10_draw kw808 rfl (gl_0 hG) rfl hl.1 rfl rfl rfl (Nat.le_of_ble_eq_true rfl) ⟨by decide, by decide⟩ ⟨by omega, by omega⟩ dl_1647) (fun ra u H locs hp hw => ?_)
  obtain ⟨I2, rfl, h⟩ := hp
  refine lv_aload_n hx hb dl_1650 rfl (lv_at hl 2 rfl) ?_
  refine lv_aload_n hx hb dl_1651 rfl (lv_at hl 0 rfl) ?_
  refine lv_iload hx hb dl_1652 (lv_at hl 4 rfl) ?_
  refine lv_iconst (v := 1) hx hb dl_1654 (by decide) ?_
  refine lv_iadd hx hb dl_1655 ?_
  refine va_sld hx hb hX hbl hbA hw.1.2.2.2.1 (hin 1 (by decide) (by decide)) dl_1656 ?_
  refine hl_calliM hw (hm_runV (rest := [_]) hCl_true X hw.2.1 (cM_draw h) ykM_draw kw1918 rfl LM_0 rfl hl.1 rfl rfl rfl (Nat.le_of_ble_eq_true rfl) ⟨by decide, by decide⟩ ⟨by omega, by omega⟩ dl_1657) (fun rb u H locs hp hw => ?_)
  obtain ⟨IM2, rfl, h⟩ := hp
  refine lv_icmp_eq (tgt := 1771) hx hb dl_1660 (by decide) (fun hc => ?_) (fun hc => ?_)
  · have h := h.2
    refine W.widen (k := cl + 90) (n := sl + 9000) (by omega) (by omega) ?_
    exact hK _ _ _ h hw (lv_sub hl [0, 1, 2, 3, 4] rfl)
  · exact absurd h.1 hc
theorem wl_keep {p : Program} {l : Launch} {e : Env} {s : State} {m : MethodId} {below : List Frame} {meth : Method} {c : Code} {H : Heap} {locs : List Loc} {cl sl : Nat} {Qz : State → Prop} {ls : Array Slot} {D : va_G} {cA : Nat → ClassId} {zC zM ro b Ln : Nat} {xs : Nat → Int32} {i : Int32} {I : HI} {J : HJ} {T F TM : HR} {L : HL} {IM : HI} {JM : HJ} {A : Nat → Prop} {K : HS → HI → HJ → Prop} (hx : p.tables.exec = Jvm.exec) (hb : c.code = code) (X : hX p m c s #[Value.ref b] R_law code 8) (hlt : l.stackTraces = false) (hX : va_X b Ln xs s s.heap) (hbl : b < s.heap.size) (hbA : ¬ A b) (hin : ∀ j : Int32, j < 6 → ¬ j < 0 → vp_in (i + j) Ln) (hG : Geo F L) (ho : (ro, 4, 1) ∈ L) (hc1 : cl + 90 ≤ room_1.cells) (hs1 : sl + 9000 ≤ room_1.slots) (hK : ∀ (SC : HS) (IM : HI) (JM : HJ) {ls : Array Slot} {H : Heap} {locs : List Loc}, K SC IM JM → hW2 D cA zC zM SC (IM, JM, TM, FM, LM) A s H locs → lv_has ls 8 [(0, .ref b), (1, .ref (zC + 0)), (2, .ref (zM + 0)), (3, .ref (zC + ro)), (4, .int i)] → W p l e room_1 s m #[Value.ref b] below meth c H locs (cl + 90) (sl + 9000) Qz (F0 m 1771 ls [])) (hw : hW2 D cA zC zM (I, J, T, F, L) (IM, JM, TM, FM, LM) A s H locs) (hl : lv_has ls 8 [(0, .ref b), (1, .ref (zC + 0)), (2, .ref (zM + 0)), (3, .ref (zC + ro)), (4, .int i)]) (h : St_keep (xs (nx (i + 1))) I J T F L ro IM JM K) : W p l e room_1 s m #[Value.ref b] below meth c H locs cl sl Qz (F0 m 1665 ls []) := by
  unfold St_keep at h
  refine lv_aload_n hx hb dl_1665 rfl (lv_at hl 1 rfl) ?_
  refine lv_aload_n hx hb dl_1666 rfl (lv_at hl 0 rfl) ?_
  refine lv_iload hx hb dl_1667 (lv_at hl 4 rfl) ?_
  refine lv_iconst (v := 1) hx hb dl_1669 (by decide) ?_
  refine lv_iadd hx hb dl_1670 ?_
  refine va_sld hx hb hX hbl hbA hw.1.2.2.2.1 (hin 1 (by decide) (by decide)) dl_1671 ?_
  refine hl_calliC hw (hm_runV (rest := []) EvC_cl X hw.1 (cH_keep hG h) yk_X10_keep kw822 rfl (gl_0 hG) rfl hl.1 rfl rfl rfl (Nat.le_of_ble_eq_true rfl) ⟨by decide, by decide⟩ ⟨by omega, by omega⟩ dl_1672) (fun ra u H locs hp hw => ?_)
  obtain ⟨I2, T2, F2, L2, rfl, h⟩ := hp
  refine lv_aload_n hx hb dl_1675 rfl (lv_at hl 2 rfl) ?_
  refine lv_aload_n hx hb dl_1676 rfl (lv_at hl 0 rfl) ?_
  refine lv_iload hx hb dl_1677 (lv_at hl 4 rfl) ?_
  refine lv_iconst (v := 1) hx hb dl_1679 (by decide) ?_
  refine lv_iadd hx hb dl_1680 ?_
  refine va_sld hx hb hX hbl hbA hw.1.2.2.2.1 (hin 1 (by decide) (by decide)) dl_1681 ?_
  refine hl_calliM hw (hm_runV (rest := [_]) hCl_true X hw.2.1 (cM_keep h) ykM_keep kw1923 rfl LM_0 rfl hl.1 rfl rfl rfl (Nat.le_of_ble_eq_true rfl) ⟨by decide, by decide⟩ ⟨by omega, by omega⟩ dl_1682) (fun rb u H locs hp hw => ?_)
  obtain ⟨IM2, rfl, h⟩ := hp
  refine lv_icmp_eq (tgt := 1771) hx hb dl_1685 (by decide) (fun hc => ?_) (fun hc => ?_)
  · have h := h.2
    refine W.widen (k := cl + 90) (n := sl + 9000) (by omega) (by omega) ?_
    exact hK _ _ _ h hw (lv_sub hl [0, 1, 2, 3, 4] rfl)
  · exact absurd h.1 hc
theorem wl_take {p : Program} {l : Launch} {e : Env} {s : State} {m : MethodId} {below : List Frame} {meth : Method} {c : Code} {H : Heap} {locs : List Loc} {cl sl : Nat} {Qz : State → Prop} {ls : Array Slot} {D : va_G} {cA : Nat → ClassId} {zC zM ro b Ln : Nat} {xs : Nat → Int32} {i : Int32} {I : HI} {J : HJ} {T F TM : HR} {L : HL} {IM : HI} {JM : HJ} {A : Nat → Prop} {K : HS → HI → HJ → Prop} (hx : p.tables.exec = Jvm.exec) (hb : c.code = code) (X : hX p m c s #[Value.ref b] R_law code 8) (hlt : l.stackTraces = false) (hX : va_X b Ln xs s s.heap) (hbl : b < s.heap.size) (hbA : ¬ A b) (hin : ∀ j : Int32, j < 6 → ¬ j < 0 → vp_in (i + j) Ln) (hG : Geo F L) (ho : (ro, 4, 1) ∈ L) (hc1 : cl + 90 ≤ room_1.cells) (hs1 : sl + 9000 ≤ room_1.slots) (hK : ∀ (SC : HS) (IM : HI) (JM : HJ) {ls : Array Slot} {H : Heap} {locs : List Loc}, K SC IM JM → hW2 D cA zC zM SC (IM, JM, TM, FM, LM) A s H locs → lv_has ls 8 [(0, .ref b), (1, .ref (zC + 0)), (2, .ref (zM + 0)), (3, .ref (zC + ro)), (4, .int i)] → W p l e room_1 s m #[Value.ref b] below meth c H locs (cl + 90) (sl + 9000) Qz (F0 m 1771 ls [])) (hw : hW2 D cA zC zM (I, J, T, F, L) (IM, JM, TM, FM, LM) A s H locs) (hl : lv_has ls 8 [(0, .ref b), (1, .ref (zC + 0)), (2, .ref (zM + 0)), (3, .ref (zC + ro)), (4, .int i)]) (h : St_take (xs (nx (i + 1))) I J T F L ro IM JM K) : W p l e room_1 s m #[Value.ref b] below meth c H locs cl sl Qz (F0 m 1690 ls []) := by
  unfold St_take at h
  refine lv_aload_n hx hb dl_1690 rfl (lv_at hl 1 rfl) ?_
  refine lv_aload_n hx hb dl_1691 rfl (lv_at hl 0 rfl) ?_
  refine lv_iload hx hb dl_1692 (lv_at hl 4 rfl) ?_
  refine lv_iconst (v := 1) hx hb dl_1694 (by decide) ?_
  refine lv_iadd hx hb dl_1695 ?_
  refine va_sld hx hb hX hbl hbA hw.1.2.2.2.1 (hin 1 (by decide) (by decide)) dl_1696 ?_
  refine hl_calliC hw (hm_runV (rest := []) EvC_cl X hw.1 (cH_take EvC_cl hG h) yk_X10_take kw831 rfl (gl_0 hG) rfl hl.1 rfl rfl rfl (Nat.le_of_ble_eq_true rfl) ⟨by decide, by decide⟩ ⟨by omega, by omega⟩ dl_1697) (fun ra u H locs hp hw => ?_)
  obtain ⟨I2, T2, rfl, h⟩ := hp
  refine lv_aload_n hx hb dl_1700 rfl (lv_at hl 2 rfl) ?_
  refine lv_aload_n hx hb dl_1701 rfl (lv_at hl 0 rfl) ?_
  refine lv_iload hx hb dl_1702 (lv_at hl 4 rfl) ?_
  refine lv_iconst (v := 1) hx hb dl_1704 (by decide) ?_
  refine lv_iadd hx hb dl_1705 ?_
  refine va_sld hx hb hX hbl hbA hw.1.2.2.2.1 (hin 1 (by decide) (by decide)) dl_1706 ?_
  refine hl_calliM hw (hm_runV (rest := [_]) hCl_true X hw.2.1 (cM_take h) ykM_take kw1927 rfl LM_0 rfl hl.1 rfl rfl rfl (Nat.le_of_ble_eq_true rfl) ⟨by decide, by decide⟩ ⟨by omega, by omega⟩ dl_1707) (fun rb u H locs hp hw => ?_)
  obtain ⟨IM2, rfl, h⟩ := hp
  refine lv_icmp_eq (tgt := 1771) hx hb dl_1710 (by decide) (fun hc => ?_) (fun hc => ?_)
  · have h := h.2
    refine W.widen (k := cl + 90) (n := sl + 9000) (by omega) (by omega) ?_
    exact hK _ _ _ h hw (lv_sub hl [0, 1, 2, 3, 4] rfl)
  · exact absurd h.1 hc
theorem wl_count {p : Program} {l : Launch} {e : Env} {s : State} {m : MethodId} {below : List Frame} {meth : Method} {c : Code} {H : Heap} {locs : List Loc} {cl sl : Nat} {Qz : State → Prop} {ls : Array Slot} {D : va_G} {cA : Nat → ClassId} {zC zM ro b Ln : Nat} {xs : Nat → Int32} {i : Int32} {I : HI} {J : HJ} {T F TM : HR} {L : HL} {IM : HI} {JM : HJ} {A : Nat → Prop} {K : HS → HI → HJ → Prop} (hx : p.tables.exec = Jvm.exec) (hb : c.code = code) (X : hX p m c s #[Value.ref b] R_law code 8) (hlt : l.stackTraces = false) (hX : va_X b Ln xs s s.heap) (hbl : b < s.heap.size) (hbA : ¬ A b) (hin : ∀ j : Int32, j < 6 → ¬ j < 0 → vp_in (i + j) Ln) (hG : Geo F L) (ho : (ro, 4, 1) ∈ L) (hc1 : cl + 90 ≤ room_1.cells) (hs1 : sl + 9000 ≤ room_1.slots) (hK : ∀ (SC : HS) (IM : HI) (JM : HJ) {ls : Array Slot} {H : Heap} {locs : List Loc}, K SC IM JM → hW2 D cA zC zM SC (IM, JM, TM, FM, LM) A s H locs → lv_has ls 8 [(0, .ref b), (1, .ref (zC + 0)), (2, .ref (zM + 0)), (3, .ref (zC + ro)), (4, .int i)] → W p l e room_1 s m #[Value.ref b] below meth c H locs (cl + 90) (sl + 9000) Qz (F0 m 1771 ls [])) (hw : hW2 D cA zC zM (I, J, T, F, L) (IM, JM, TM, FM, LM) A s H locs) (hl : lv_has ls 8 [(0, .ref b), (1, .ref (zC + 0)), (2, .ref (zM + 0)), (3, .ref (zC + ro)), (4, .int i)]) (h : St_count (xs (nx (i + 1))) I J T F L ro IM JM K) : W p l e room_1 s m #[Value.ref b] below meth c H locs cl sl Qz (F0 m 1715 ls []) := by
  unfold St_count at h
  refine lv_aload_n hx hb dl_1715 rfl (lv_at hl 1 rfl) ?_
  refine lv_aload_n hx hb dl_1716 rfl (lv_at hl 0 rfl) ?_
  refine lv_iload hx hb dl_1717 (lv_at hl 4 rfl) ?_
  refine lv_iconst (v := 1) hx hb dl_1719 (by decide) ?_
  refine lv_iadd hx hb dl_1720 ?_
  refine va_sld hx hb hX hbl hbA hw.1.2.2.2.1 (hin 1 (by decide) (by decide)) dl_1721 ?_
  refine lv_aload_n hx hb dl_1722 rfl (lv_at hl 3 rfl) ?_
  refine hl_calliC hw (hm_runSW (rest := []) EvC_cl X hw.1 (kL_count hlt hG ho h) yw_count kw1306 rfl hl.1 rfl rfl rfl (Nat.le_of_ble_eq_true rfl) ⟨by decide, by decide⟩ ⟨by omega, by omega⟩ dl_1723) (fun rk u H locs hp hw => ?_)
  obtain ⟨I2, J2, T2, F2, L2⟩ := u
  obtain ⟨ho, h⟩ := hp
  replace ho : (ro, 4, 1) ∈ L2 := ho
  refine lv_istore (lv' := [(5, _), (0, _), (1, _), (2, _), (3, _), (4, _)]) hx hb dl_1726 hl (by decide) rfl (fun ls hl => ?_)
  refine lv_aload_n hx hb dl_1728 rfl (lv_at hl 3 rfl) ?_
  refine lv_aload_n hx hb dl_1729 rfl (lv_at hl 1 rfl) ?_
  refine lv_iload hx hb dl_1730 (lv_at hl 5 rfl) ?_
  refine lv_iconst (v := 1) hx hb dl_1732 (by decide) ?_
  refine lv_iadd hx hb dl_1733 ?_
  refine va_sld hx hb hX hbl hbA hw.1.2.2.2.1 (hin 1 (by decide) (by decide)) dl_1734 ?_
  refine hl_calliM hw (hm_runV (rest := []) hCl_true X hw.2.1 (cM_count h) ykM_count kw1931 rfl LM_0 rfl hl.1 rfl rfl rfl (Nat.le_of_ble_eq_true rfl) ⟨by decide, by decide⟩ ⟨by omega, by omega⟩ dl_1735) (fun rb u H locs hp hw => ?_)
  obtain ⟨IM2, rfl, h⟩ := hp
  refine lv_istore (lv' := [(6, _), (5, _), (0, _), (1, _), (2, _), (3, _), (4, _)]) hx hb dl_1738 hl (by decide) rfl (fun ls hl => ?_)
  refine lv_aload_n hx hb dl_1740 rfl (lv_at hl 4 rfl) ?_
  refine hl_calliM hw (hm_runV (rest := []) hCl_true X hw.2.1 (cM_thrown h) ykM_thrown kw1575 rfl LM_0 rfl hl.1 rfl rfl rfl (Nat.le_of_ble_eq_true rfl) ⟨by decide, by decide⟩ ⟨by omega, by omega⟩ dl_1741) (fun rt u H locs hp hw => ?_)
  obtain ⟨rfl, h⟩ := hp
  refine lv_iload hx hb dl_1744 (lv_at hl 1 rfl) ?_
  refine lv_icmp_eq (tgt := 1751) hx hb dl_1746 (by decide) (fun hc => ?_) (fun hc => ?_)
  rotate_left
  · exact absurd h.1 hc
  have h := h.2
  refine lv_iload hx hb dl_1751 (lv_at hl 1 rfl) ?_
  refine lv_if_ne (tgt := 1768) hx hb dl_1753 (by decide) (fun hc => ?_) (fun hc => ?_)
  · have h := h.2
    refine lv_goto (tgt := 1771) hx hb dl_1768 (by decide) ?_
    refine W.widen (k := cl + 90) (n := sl + 9000) (by omega) (by omega) ?_
    exact hK _ _ _ h hw (lv_sub hl [2, 3, 4, 5, 6] rfl)
  have hj := h.1 hc
  have h := h.2
  refine lv_aload_n hx hb dl_1756 rfl (lv_at hl 5 rfl) ?_
  refine lv_iconst (v := 0) hx hb dl_1757 (by decide) ?_
  refine hm_lald X hw.1 ho (by unfold vp_in; decide) dl_1758 ?_
  refine lv_iload hx hb dl_1759 (lv_at hl 0 rfl) ?_
  refine lv_i2l (v := Int32.toInt64 rb) hx hb dl_1761 rfl ?_
  refine W.lcmp hx hb dl_1762 ?_
  refine lv_if_eq (tgt := 1768) hx hb dl_1763 (by decide) (fun hc => ?_) (fun hc => ?_)
  rotate_left
  · exact absurd (hl_cmp_eq hj) hc
  refine lv_goto (tgt := 1771) hx hb dl_1768 (by decide) ?_
  refine W.widen (k := cl + 90) (n := sl + 9000) (by omega) (by omega) ?_
  exact hK _ _ _ h hw (lv_sub hl [2, 3, 4, 5, 6] rfl)
