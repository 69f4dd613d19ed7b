set_option maxRecDepth 10000 in
theorem lc_feed {p : Program} {l : Launch} {e : Env} {s : State} {m : MethodId} {below : List Frame} {meth : Method} {c : Code} {b L : Nat} {xs : Nat → Int32} {D : va_G} {Q : State → Prop} (hL : L ≤ 3072) (C0 : lw_At p s m meth c b L xs) (hX : ∀ d j As E Ra, sd_X j As E Ra → sd_Snd l d j As E Ra) (hK : va_K D vwCl [] s) (hN : sd_NW s) (hSS : sd_SS (sd_LA s) s s.heap) {Inv : sd_M → Prop} (hs : sd_S5 Inv f_X9_feed f_X10_feed) {M : sd_M} (hM : Inv M) {ws : va_W} {H : Heap} {locs : List Loc} {ls : Array Slot} {qx qm i : Nat} {x3 : Int32} (hi : i + 6 ≤ L) (ex3 : x3 = nI i) (hW : sd_RW s (sd_rp M) ws) (hP : va_P D vwCl ws H) (hD : va_D (sd_LA s) ws) (hS : va_S (sd_LA s) s.heap H locs) (hqx : (ws.map (fun q => q.1))[0]? = some qx) (hqm : (ws.map (fun q => q.1))[331]? = some qm) (hl : lv_has ls 4 [(0, .ref b), (1, .ref qx), (2, .ref qm), (3, .int x3)])
    (kk : ∀ (M2 : sd_M) (ws2 : va_W) (H1 : Heap) (locs1 : List Loc), Inv M2 → sd_RW s (sd_rp M2) ws2 → va_P D vwCl ws2 H1 → va_D (sd_LA s) ws2 → va_S (sd_LA s) s.heap H1 locs1 → (ws2.map (fun q => q.1))[0]? = some qx → (ws2.map (fun q => q.1))[331]? = some qm → W p l e room_1 s m #[Value.ref b] below meth c H1 locs1 357 15544 Q (F0 m 1187 ls [])) : W p l e room_1 s m #[Value.ref b] below meth c H locs 357 15544 Q (F0 m 196 ls []) := by
  obtain ⟨hx, hb, hr, hml, hown, hts, hXs, hbl, hlocks, hgv⟩ := id C0
  have hbA : ¬ sd_LA s b := Nat.not_le.mpr hbl
  obtain ⟨r, M1, M2, e1, e2, hI⟩ := hs M hM _ _ _ _ _ (sd_rgi (xs (x3 + 1).toNatClampNeg)) (sd_rgi (xs (x3 + 2).toNatClampNeg)) (sd_rgi (xs (x3 + 3).toNatClampNeg)) (sd_rgi (xs (x3 + 4).toNatClampNeg)) (sd_rgi (xs (x3 + 5).toNatClampNeg))
  refine lv_aload_n hx hb dl_196 rfl (lv_at hl 1 rfl) ?_
  refine lv_aload_n hx hb dl_197 rfl (lv_at hl 0 rfl) ?_
  refine lv_iload_n hx hb dl_198 rfl (lv_at hl 3 rfl) ?_
  refine lv_iconst (v := 1) hx hb dl_199 (by decide) ?_
  refine lv_iadd hx hb dl_200 ?_
  refine va_sld hx hb hXs hbl hbA hS (sd_lin ex3 hi hL 1 (by decide)) dl_201 ?_
  refine lv_aload_n hx hb dl_202 rfl (lv_at hl 0 rfl) ?_
  refine lv_iload_n hx hb dl_203 rfl (lv_at hl 3 rfl) ?_
  refine lv_iconst (v := 2) hx hb dl_204 (by decide) ?_
  refine lv_iadd hx hb dl_205 ?_
  refine va_sld hx hb hXs hbl hbA hS (sd_lin ex3 hi hL 2 (by decide)) dl_206 ?_
  refine lv_aload_n hx hb dl_207 rfl (lv_at hl 0 rfl) ?_
  refine lv_iload_n hx hb dl_208 rfl (lv_at hl 3 rfl) ?_
  refine lv_iconst (v := 3) hx hb dl_209 (by decide) ?_
  refine lv_iadd hx hb dl_210 ?_
  refine va_sld hx hb hXs hbl hbA hS (sd_lin ex3 hi hL 3 (by decide)) dl_211 ?_
  refine lv_aload_n hx hb dl_212 rfl (lv_at hl 0 rfl) ?_
  refine lv_iload_n hx hb dl_213 rfl (lv_at hl 3 rfl) ?_
  refine lv_iconst (v := 4) hx hb dl_214 (by decide) ?_
  refine lv_iadd hx hb dl_215 ?_
  refine va_sld hx hb hXs hbl hbA hS (sd_lin ex3 hi hL 4 (by decide)) dl_216 ?_
  refine lv_aload_n hx hb dl_217 rfl (lv_at hl 0 rfl) ?_
  refine lv_iload_n hx hb dl_218 rfl (lv_at hl 3 rfl) ?_
  refine lv_iconst (v := 5) hx hb dl_219 (by decide) ?_
  refine lv_iadd hx hb dl_220 ?_
  refine va_sld hx hb hXs hbl hbA hS (sd_lin ex3 hi hL 5 (by decide)) dl_221 ?_
  refine sd_lcall (M := M) (M2 := M1) (r := r) (a := 0) C0 hX hK hN hSS [xs (x3 + 1).toNatClampNeg, xs (x3 + 2).toNatClampNeg, xs (x3 + 3).toNatClampNeg, xs (x3 + 4).toNatClampNeg, xs (x3 + 5).toNatClampNeg] sd_i_X9_feed (List.mem_of_getElem? (i := 465) rfl) (List.mem_of_getElem? (i := 466) rfl) (List.mem_of_getElem? (i := 467) rfl) (List.mem_of_getElem? (i := 116) rfl) rfl sd_o_0 (m_X9_feed (by omega) e1) hW hP hD hS hqx hl.1 (Nat.le_of_ble_eq_true rfl) dl_222 ⟨Nat.le_of_ble_eq_true rfl, Nat.le_of_ble_eq_true rfl⟩ rfl (fun rv ws1 H1 locs1 hrv hW1 hP1 hD1 hS1 hex1 => ?_)
  refine lv_aload_n hx hb dl_225 rfl (lv_at hl 2 rfl) ?_
  refine lv_aload_n hx hb dl_226 rfl (lv_at hl 0 rfl) ?_
  refine lv_iload_n hx hb dl_227 rfl (lv_at hl 3 rfl) ?_
  refine lv_iconst (v := 1) hx hb dl_228 (by decide) ?_
  refine lv_iadd hx hb dl_229 ?_
  refine va_sld hx hb hXs hbl hbA hS1 (sd_lin ex3 hi hL 1 (by decide)) dl_230 ?_
  refine lv_aload_n hx hb dl_231 rfl (lv_at hl 0 rfl) ?_
  refine lv_iload_n hx hb dl_232 rfl (lv_at hl 3 rfl) ?_
  refine lv_iconst (v := 2) hx hb dl_233 (by decide) ?_
  refine lv_iadd hx hb dl_234 ?_
  refine va_sld hx hb hXs hbl hbA hS1 (sd_lin ex3 hi hL 2 (by decide)) dl_235 ?_
  refine lv_aload_n hx hb dl_236 rfl (lv_at hl 0 rfl) ?_
  refine lv_iload_n hx hb dl_237 rfl (lv_at hl 3 rfl) ?_
  refine lv_iconst (v := 3) hx hb dl_238 (by decide) ?_
  refine lv_iadd hx hb dl_239 ?_
  refine va_sld hx hb hXs hbl hbA hS1 (sd_lin ex3 hi hL 3 (by decide)) dl_240 ?_
  refine lv_aload_n hx hb dl_241 rfl (lv_at hl 0 rfl) ?_
  refine lv_iload_n hx hb dl_242 rfl (lv_at hl 3 rfl) ?_
  refine lv_iconst (v := 4) hx hb dl_243 (by decide) ?_
  refine lv_iadd hx hb dl_244 ?_
  refine va_sld hx hb hXs hbl hbA hS1 (sd_lin ex3 hi hL 4 (by decide)) dl_245 ?_
  refine lv_aload_n hx hb dl_246 rfl (lv_at hl 0 rfl) ?_
  refine lv_iload_n hx hb dl_247 rfl (lv_at hl 3 rfl) ?_
  refine lv_iconst (v := 5) hx hb dl_248 (by decide) ?_
  refine lv_iadd hx hb dl_249 ?_
  refine va_sld hx hb hXs hbl hbA hS1 (sd_lin ex3 hi hL 5 (by decide)) dl_250 ?_
  refine sd_lcall (M := M1) (M2 := M2) (r := r) (a := 331) C0 hX hK hN hSS [xs (x3 + 1).toNatClampNeg, xs (x3 + 2).toNatClampNeg, xs (x3 + 3).toNatClampNeg, xs (x3 + 4).toNatClampNeg, xs (x3 + 5).toNatClampNeg] sd_i_X10_feed (List.mem_of_getElem? (i := 1164) rfl) (List.mem_of_getElem? (i := 1165) rfl) (List.mem_of_getElem? (i := 1166) rfl) (List.mem_of_getElem? (i := 126) rfl) rfl sd_o_331 (m_X10_feed (by omega) e2) hW1 hP1 hD1 hS1 (sd_ext_get hex1 hqm) hl.1 (Nat.le_of_ble_eq_true rfl) dl_251 ⟨Nat.le_of_ble_eq_true rfl, Nat.le_of_ble_eq_true rfl⟩ rfl (fun rv2 ws2 H2 locs2 hrv2 hW2 hP2 hD2 hS2 hex2 => ?_)
  refine lv_icmp_eq (tgt := 1187) hx hb dl_254 (by decide) (fun c1 => ?_) (fun c1 => absurd (Int32.toInt_inj.mp (hrv.trans hrv2.symm)) c1)
  exact kk M2 ws2 H2 locs2 hI hW2 hP2 hD2 hS2 (sd_ext_get hex2 (sd_ext_get hex1 hqx)) (sd_ext_get hex2 (sd_ext_get hex1 hqm))
set_option maxRecDepth 10000 in
theorem lc_end {p : Program} {l : Launch} {e : Env} {s : State} {m : MethodId} {below : List Frame} {meth : Method} {c : Code} {b L : Nat} {xs : Nat → Int32} {D : va_G} {Q : State → Prop} (hL : L ≤ 3072) (C0 : lw_At p s m meth c b L xs) (hX : ∀ d j As E Ra, sd_X j As E Ra → sd_Snd l d j As E Ra) (hK : va_K D vwCl [] s) (hN : sd_NW s) (hSS : sd_SS (sd_LA s) s s.heap) {Inv : sd_M → Prop} (hs : sd_S1 Inv f_X9_end f_X10_end) {M : sd_M} (hM : Inv M) {ws : va_W} {H : Heap} {locs : List Loc} {ls : Array Slot} {qx qm i : Nat} {x3 : Int32} (hi : i + 6 ≤ L) (ex3 : x3 = nI i) (hW : sd_RW s (sd_rp M) ws) (hP : va_P D vwCl ws H) (hD : va_D (sd_LA s) ws) (hS : va_S (sd_LA s) s.heap H locs) (hqx : (ws.map (fun q => q.1))[0]? = some qx) (hqm : (ws.map (fun q => q.1))[331]? = some qm) (hl : lv_has ls 4 [(0, .ref b), (1, .ref qx), (2, .ref qm), (3, .int x3)])
    (kk : ∀ (M2 : sd_M) (ws2 : va_W) (H1 : Heap) (locs1 : List Loc), Inv M2 → sd_RW s (sd_rp M2) ws2 → va_P D vwCl ws2 H1 → va_D (sd_LA s) ws2 → va_S (sd_LA s) s.heap H1 locs1 → (ws2.map (fun q => q.1))[0]? = some qx → (ws2.map (fun q => q.1))[331]? = some qm → W p l e room_1 s m #[Value.ref b] below meth c H1 locs1 357 15544 Q (F0 m 1187 ls [])) : W p l e room_1 s m #[Value.ref b] below meth c H locs 357 15544 Q (F0 m 259 ls []) := by
  obtain ⟨hx, hb, hr, hml, hown, hts, hXs, hbl, hlocks, hgv⟩ := id C0
  have hbA : ¬ sd_LA s b := Nat.not_le.mpr hbl
  obtain ⟨r, M1, M2, e1, e2, hI⟩ := hs M hM _ (sd_rgi (xs (x3 + 1).toNatClampNeg))
  refine lv_aload_n hx hb dl_259 rfl (lv_at hl 1 rfl) ?_
  refine lv_aload_n hx hb dl_260 rfl (lv_at hl 0 rfl) ?_
  refine lv_iload_n hx hb dl_261 rfl (lv_at hl 3 rfl) ?_
  refine lv_iconst (v := 1) hx hb dl_262 (by decide) ?_
  refine lv_iadd hx hb dl_263 ?_
  refine va_sld hx hb hXs hbl hbA hS (sd_lin ex3 hi hL 1 (by decide)) dl_264 ?_
  refine sd_lcall (M := M) (M2 := M1) (r := r) (a := 0) C0 hX hK hN hSS [xs (x3 + 1).toNatClampNeg] sd_i_X9_end (List.mem_of_getElem? (i := 473) rfl) (List.mem_of_getElem? (i := 474) rfl) (List.mem_of_getElem? (i := 475) rfl) (List.mem_of_getElem? (i := 116) rfl) rfl sd_o_0 (m_X9_end (by omega) e1) hW hP hD hS hqx hl.1 (Nat.le_of_ble_eq_true rfl) dl_265 ⟨Nat.le_of_ble_eq_true rfl, Nat.le_of_ble_eq_true rfl⟩ rfl (fun rv ws1 H1 locs1 hrv hW1 hP1 hD1 hS1 hex1 => ?_)
  refine lv_aload_n hx hb dl_268 rfl (lv_at hl 2 rfl) ?_
  refine lv_aload_n hx hb dl_269 rfl (lv_at hl 0 rfl) ?_
  refine lv_iload_n hx hb dl_270 rfl (lv_at hl 3 rfl) ?_
  refine lv_iconst (v := 1) hx hb dl_271 (by decide) ?_
  refine lv_iadd hx hb dl_272 ?_
  refine va_sld hx hb hXs hbl hbA hS1 (sd_lin ex3 hi hL 1 (by decide)) dl_273 ?_
  refine sd_lcall (M := M1) (M2 := M2) (r := r) (a := 331) C0 hX hK hN hSS [xs (x3 + 1).toNatClampNeg] sd_i_X10_end (List.mem_of_getElem? (i := 1172) rfl) (List.mem_of_getElem? (i := 1173) rfl) (List.mem_of_getElem? (i := 1174) rfl) (List.mem_of_getElem? (i := 126) rfl) rfl sd_o_331 (m_X10_end (by omega) e2) hW1 hP1 hD1 hS1 (sd_ext_get hex1 hqm) hl.1 (Nat.le_of_ble_eq_true rfl) dl_274 ⟨Nat.le_of_ble_eq_true rfl, Nat.le_of_ble_eq_true rfl⟩ rfl (fun rv2 ws2 H2 locs2 hrv2 hW2 hP2 hD2 hS2 hex2 => ?_)
  refine lv_icmp_eq (tgt := 1187) hx hb dl_277 (by decide) (fun c1 => ?_) (fun c1 => absurd (Int32.toInt_inj.mp (hrv.trans hrv2.symm)) c1)
  exact kk M2 ws2 H2 locs2 hI hW2 hP2 hD2 hS2 (sd_ext_get hex2 (sd_ext_get hex1 hqx)) (sd_ext_get hex2 (sd_ext_get hex1 hqm))
set_option maxRecDepth 10000 in
theorem lc_slip {p : Program} {l : Launch} {e : Env} {s : State} {m : MethodId} {below : List Frame} {meth : Method} {c : Code} {b L : Nat} {xs : Nat → Int32} {D : va_G} {Q : State → Prop} (hL : L ≤ 3072) (C0 : lw_At p s m meth c b L xs) (hX : ∀ d j As E Ra, sd_X j As E Ra → sd_Snd l d j As E Ra) (hK : va_K D vwCl [] s) (hN : sd_NW s) (hSS : sd_SS (sd_LA s) s s.heap) {Inv : sd_M → Prop} (hs : sd_S0 Inv f_X9_slip f_X10_slip) {M : sd_M} (hM : Inv M) {ws : va_W} {H : Heap} {locs : List Loc} {ls : Array Slot} {qx qm i : Nat} {x3 : Int32} (hi : i + 6 ≤ L) (ex3 : x3 = nI i) (hW : sd_RW s (sd_rp M) ws) (hP : va_P D vwCl ws H) (hD : va_D (sd_LA s) ws) (hS : va_S (sd_LA s) s.heap H locs) (hqx : (ws.map (fun q => q.1))[0]? = some qx) (hqm : (ws.map (fun q => q.1))[331]? = some qm) (hl : lv_has ls 4 [(0, .ref b), (1, .ref qx), (2, .ref qm), (3, .int x3)])
    (kk : ∀ (M2 : sd_M) (ws2 : va_W) (H1 : Heap) (locs1 : List Loc), Inv M2 → sd_RW s (sd_rp M2) ws2 → va_P D vwCl ws2 H1 → va_D (sd_LA s) ws2 → va_S (sd_LA s) s.heap H1 locs1 → (ws2.map (fun q => q.1))[0]? = some qx → (ws2.map (fun q => q.1))[331]? = some qm → W p l e room_1 s m #[Value.ref b] below meth c H1 locs1 357 15544 Q (F0 m 1187 ls [])) : W p l e room_1 s m #[Value.ref b] below meth c H locs 357 15544 Q (F0 m 282 ls []) := by
  obtain ⟨hx, hb, hr, hml, hown, hts, hXs, hbl, hlocks, hgv⟩ := id C0
  have hbA : ¬ sd_LA s b := Nat.not_le.mpr hbl
  obtain ⟨r, M1, M2, e1, e2, hI⟩ := hs M hM
  refine lv_aload_n hx hb dl_282 rfl (lv_at hl 1 rfl) ?_
  refine sd_lcall (M := M) (M2 := M1) (r := r) (a := 0) C0 hX hK hN hSS [] sd_i_X9_slip (List.mem_of_getElem? (i := 477) rfl) (List.mem_of_getElem? (i := 478) rfl) (List.mem_of_getElem? (i := 479) rfl) (List.mem_of_getElem? (i := 116) rfl) rfl sd_o_0 (m_X9_slip (by omega) e1) hW hP hD hS hqx hl.1 (Nat.le_of_ble_eq_true rfl) dl_283 ⟨Nat.le_of_ble_eq_true rfl, Nat.le_of_ble_eq_true rfl⟩ rfl (fun rv ws1 H1 locs1 hrv hW1 hP1 hD1 hS1 hex1 => ?_)
  refine lv_aload_n hx hb dl_286 rfl (lv_at hl 2 rfl) ?_
  refine sd_lcall (M := M1) (M2 := M2) (r := r) (a := 331) C0 hX hK hN hSS [] sd_i_X10_slip (List.mem_of_getElem? (i := 1324) rfl) (List.mem_of_getElem? (i := 1325) rfl) (List.mem_of_getElem? (i := 1326) rfl) (List.mem_of_getElem? (i := 126) rfl) rfl sd_o_331 (m_X10_slip (by omega) e2) hW1 hP1 hD1 hS1 (sd_ext_get hex1 hqm) hl.1 (Nat.le_of_ble_eq_true rfl) dl_287 ⟨Nat.le_of_ble_eq_true rfl, Nat.le_of_ble_eq_true rfl⟩ rfl (fun rv2 ws2 H2 locs2 hrv2 hW2 hP2 hD2 hS2 hex2 => ?_)
  refine lv_icmp_eq (tgt := 1187) hx hb dl_290 (by decide) (fun c1 => ?_) (fun c1 => absurd (Int32.toInt_inj.mp (hrv.trans hrv2.symm)) c1)
  exact kk M2 ws2 H2 locs2 hI hW2 hP2 hD2 hS2 (sd_ext_get hex2 (sd_ext_get hex1 hqx)) (sd_ext_get hex2 (sd_ext_get hex1 hqm))
set_option maxRecDepth 10000 in
theorem lc_rule {p : Program} {l : Launch} {e : Env} {s : State} {m : MethodId} {below : List Frame} {meth : Method} {c : Code} {b L : Nat} {xs : Nat → Int32} {D : va_G} {Q : State → Prop} (hL : L ≤ 3072) (C0 : lw_At p s m meth c b L xs) (hX : ∀ d j As E Ra, sd_X j As E Ra → sd_Snd l d j As E Ra) (hK : va_K D vwCl [] s) (hN : sd_NW s) (hSS : sd_SS (sd_LA s) s s.heap) {Inv : sd_M → Prop} (hs : sd_S0 Inv f_X9_rule f_X10_rule) {M : sd_M} (hM : Inv M) {ws : va_W} {H : Heap} {locs : List Loc} {ls : Array Slot} {qx qm i : Nat} {x3 : Int32} (hi : i + 6 ≤ L) (ex3 : x3 = nI i) (hW : sd_RW s (sd_rp M) ws) (hP : va_P D vwCl ws H) (hD : va_D (sd_LA s) ws) (hS : va_S (sd_LA s) s.heap H locs) (hqx : (ws.map (fun q => q.1))[0]? = some qx) (hqm : (ws.map (fun q => q.1))[331]? = some qm) (hl : lv_has ls 4 [(0, .ref b), (1, .ref qx), (2, .ref qm), (3, .int x3)])
    (kk : ∀ (M2 : sd_M) (ws2 : va_W) (H1 : Heap) (locs1 : List Loc), Inv M2 → sd_RW s (sd_rp M2) ws2 → va_P D vwCl ws2 H1 → va_D (sd_LA s) ws2 → va_S (sd_LA s) s.heap H1 locs1 → (ws2.map (fun q => q.1))[0]? = some qx → (ws2.map (fun q => q.1))[331]? = some qm → W p l e room_1 s m #[Value.ref b] below meth c H1 locs1 357 15544 Q (F0 m 1187 ls [])) : W p l e room_1 s m #[Value.ref b] below meth c H locs 357 15544 Q (F0 m 295 ls []) := by
  obtain ⟨hx, hb, hr, hml, hown, hts, hXs, hbl, hlocks, hgv⟩ := id C0
  have hbA : ¬ sd_LA s b := Nat.not_le.mpr hbl
  obtain ⟨r, M1, M2, e1, e2, hI⟩ := hs M hM
  refine lv_aload_n hx hb dl_295 rfl (lv_at hl 1 rfl) ?_
  refine sd_lcall (M := M) (M2 := M1) (r := r) (a := 0) C0 hX hK hN hSS [] sd_i_X9_rule (List.mem_of_getElem? (i := 617) rfl) (List.mem_of_getElem? (i := 618) rfl) (List.mem_of_getElem? (i := 619) rfl) (List.mem_of_getElem? (i := 116) rfl) rfl sd_o_0 (m_X9_rule (by omega) e1) hW hP hD hS hqx hl.1 (Nat.le_of_ble_eq_true rfl) dl_296 ⟨Nat.le_of_ble_eq_true rfl, Nat.le_of_ble_eq_true rfl⟩ rfl (fun rv ws1 H1 locs1 hrv hW1 hP1 hD1 hS1 hex1 => ?_)
  refine lv_aload_n hx hb dl_299 rfl (lv_at hl 2 rfl) ?_
  refine sd_lcall (M := M1) (M2 := M2) (r := r) (a := 331) C0 hX hK hN hSS [] sd_i_X10_rule (List.mem_of_getElem? (i := 1176) rfl) (List.mem_of_getElem? (i := 1177) rfl) (List.mem_of_getElem? (i := 1178) rfl) (List.mem_of_getElem? (i := 126) rfl) rfl sd_o_331 (m_X10_rule (by omega) e2) hW1 hP1 hD1 hS1 (sd_ext_get hex1 hqm) hl.1 (Nat.le_of_ble_eq_true rfl) dl_300 ⟨Nat.le_of_ble_eq_true rfl, Nat.le_of_ble_eq_true rfl⟩ rfl (fun rv2 ws2 H2 locs2 hrv2 hW2 hP2 hD2 hS2 hex2 => ?_)
  refine lv_icmp_eq (tgt := 1187) hx hb dl_303 (by decide) (fun c1 => ?_) (fun c1 => absurd (Int32.toInt_inj.mp (hrv.trans hrv2.symm)) c1)
  exact kk M2 ws2 H2 locs2 hI hW2 hP2 hD2 hS2 (sd_ext_get hex2 (sd_ext_get hex1 hqx)) (sd_ext_get hex2 (sd_ext_get hex1 hqm))
set_option maxRecDepth 10000 in
theorem lc_force {p : Program} {l : Launch} {e : Env} {s : State} {m : MethodId} {below : List Frame} {meth : Method} {c : Code} {b L : Nat} {xs : Nat → Int32} {D : va_G} {Q : State → Prop} (hL : L ≤ 3072) (C0 : lw_At p s m meth c b L xs) (hX : ∀ d j As E Ra, sd_X j As E Ra → sd_Snd l d j As E Ra) (hK : va_K D vwCl [] s) (hN : sd_NW s) (hSS : sd_SS (sd_LA s) s s.heap) {Inv : sd_M → Prop} (hs : sd_S1 Inv f_X9_force f_X10_force) {M : sd_M} (hM : Inv M) {ws : va_W} {H : Heap} {locs : List Loc} {ls : Array Slot} {qx qm i : Nat} {x3 : Int32} (hi : i + 6 ≤ L) (ex3 : x3 = nI i) (hW : sd_RW s (sd_rp M) ws) (hP : va_P D vwCl ws H) (hD : va_D (sd_LA s) ws) (hS : va_S (sd_LA s) s.heap H locs) (hqx : (ws.map (fun q => q.1))[0]? = some qx) (hqm : (ws.map (fun q => q.1))[331]? = some qm) (hl : lv_has ls 4 [(0, .ref b), (1, .ref qx), (2, .ref qm), (3, .int x3)])
    (kk : ∀ (M2 : sd_M) (ws2 : va_W) (H1 : Heap) (locs1 : List Loc), Inv M2 → sd_RW s (sd_rp M2) ws2 → va_P D vwCl ws2 H1 → va_D (sd_LA s) ws2 → va_S (sd_LA s) s.heap H1 locs1 → (ws2.map (fun q => q.1))[0]? = some qx → (ws2.map (fun q => q.1))[331]? = some qm → W p l e room_1 s m #[Value.ref b] below meth c H1 locs1 357 15544 Q (F0 m 1187 ls [])) : W p l e room_1 s m #[Value.ref b] below meth c H locs 357 15544 Q (F0 m 308 ls []) := by
  obtain ⟨hx, hb, hr, hml, hown, hts, hXs, hbl, hlocks, hgv⟩ := id C0
  have hbA : ¬ sd_LA s b := Nat.not_le.mpr hbl
  obtain ⟨r, M1, M2, e1, e2, hI⟩ := hs M hM _ (sd_rgi (xs (x3 + 1).toNatClampNeg))
  refine lv_aload_n hx hb dl_308 rfl (lv_at hl 1 rfl) ?_
  refine lv_aload_n hx hb dl_309 rfl (lv_at hl 0 rfl) ?_
  refine lv_iload_n hx hb dl_310 rfl (lv_at hl 3 rfl) ?_
  refine lv_iconst (v := 1) hx hb dl_311 (by decide) ?_
  refine lv_iadd hx hb dl_312 ?_
  refine va_sld hx hb hXs hbl hbA hS (sd_lin ex3 hi hL 1 (by decide)) dl_313 ?_
  refine sd_lcall (M := M) (M2 := M1) (r := r) (a := 0) C0 hX hK hN hSS [xs (x3 + 1).toNatClampNeg] sd_i_X9_force (List.mem_of_getElem? (i := 665) rfl) (List.mem_of_getElem? (i := 666) rfl) (List.mem_of_getElem? (i := 667) rfl) (List.mem_of_getElem? (i := 116) rfl) rfl sd_o_0 (m_X9_force (by omega) e1) hW hP hD hS hqx hl.1 (Nat.le_of_ble_eq_true rfl) dl_314 ⟨Nat.le_of_ble_eq_true rfl, Nat.le_of_ble_eq_true rfl⟩ rfl (fun rv ws1 H1 locs1 hrv hW1 hP1 hD1 hS1 hex1 => ?_)
  refine lv_aload_n hx hb dl_317 rfl (lv_at hl 2 rfl) ?_
  refine lv_aload_n hx hb dl_318 rfl (lv_at hl 0 rfl) ?_
  refine lv_iload_n hx hb dl_319 rfl (lv_at hl 3 rfl) ?_
  refine lv_iconst (v := 1) hx hb dl_320 (by decide) ?_
  refine lv_iadd hx hb dl_321 ?_
  refine va_sld hx hb hXs hbl hbA hS1 (sd_lin ex3 hi hL 1 (by decide)) dl_322 ?_
  refine sd_lcall (M := M1) (M2 := M2) (r := r) (a := 331) C0 hX hK hN hSS [xs (x3 + 1).toNatClampNeg] sd_i_X10_force (List.mem_of_getElem? (i := 1332) rfl) (List.mem_of_getElem? (i := 1333) rfl) (List.mem_of_getElem? (i := 1334) rfl) (List.mem_of_getElem? (i := 126) rfl) rfl sd_o_331 (m_X10_force (by omega) e2) hW1 hP1 hD1 hS1 (sd_ext_get hex1 hqm) hl.1 (Nat.le_of_ble_eq_true rfl) dl_323 ⟨Nat.le_of_ble_eq_true rfl, Nat.le_of_ble_eq_true rfl⟩ rfl (fun rv2 ws2 H2 locs2 hrv2 hW2 hP2 hD2 hS2 hex2 => ?_)
  refine lv_icmp_eq (tgt := 1187) hx hb dl_326 (by decide) (fun c1 => ?_) (fun c1 => absurd (Int32.toInt_inj.mp (hrv.trans hrv2.symm)) c1)
  exact kk M2 ws2 H2 locs2 hI hW2 hP2 hD2 hS2 (sd_ext_get hex2 (sd_ext_get hex1 hqx)) (sd_ext_get hex2 (sd_ext_get hex1 hqm))
set_option maxRecDepth 10000 in
theorem lc_offer {p : Program} {l : Launch} {e : Env} {s : State} {m : MethodId} {below : List Frame} {meth : Method} {c : Code} {b L : Nat} {xs : Nat → Int32} {D : va_G} {Q : State → Prop} (hL : L ≤ 3072) (C0 : lw_At p s m meth c b L xs) (hX : ∀ d j As E Ra, sd_X j As E Ra → sd_Snd l d j As E Ra) (hK : va_K D vwCl [] s) (hN : sd_NW s) (hSS : sd_SS (sd_LA s) s s.heap) {Inv : sd_M → Prop} (hs : sd_S2 Inv f_X9_offer f_X10_offer) {M : sd_M} (hM : Inv M) {ws : va_W} {H : Heap} {locs : List Loc} {ls : Array Slot} {qx qm i : Nat} {x3 : Int32} (hi : i + 6 ≤ L) (ex3 : x3 = nI i) (hW : sd_RW s (sd_rp M) ws) (hP : va_P D vwCl ws H) (hD : va_D (sd_LA s) ws) (hS : va_S (sd_LA s) s.heap H locs) (hqx : (ws.map (fun q => q.1))[0]? = some qx) (hqm : (ws.map (fun q => q.1))[331]? = some qm) (hl : lv_has ls 4 [(0, .ref b), (1, .ref qx), (2, .ref qm), (3, .int x3)])
    (kk : ∀ (M2 : sd_M) (ws2 : va_W) (H1 : Heap) (locs1 : List Loc), Inv M2 → sd_RW s (sd_rp M2) ws2 → va_P D vwCl ws2 H1 → va_D (sd_LA s) ws2 → va_S (sd_LA s) s.heap H1 locs1 → (ws2.map (fun q => q.1))[0]? = some qx → (ws2.map (fun q => q.1))[331]? = some qm → W p l e room_1 s m #[Value.ref b] below meth c H1 locs1 357 15544 Q (F0 m 1187 ls [])) : W p l e room_1 s m #[Value.ref b] below meth c H locs 357 15544 Q (F0 m 331 ls []) := by
  obtain ⟨hx, hb, hr, hml, hown, hts, hXs, hbl, hlocks, hgv⟩ := id C0
  have hbA : ¬ sd_LA s b := Nat.not_le.mpr hbl
  obtain ⟨r, M1, M2, e1, e2, hI⟩ := hs M hM _ _ (sd_rgi (xs (x3 + 1).toNatClampNeg)) (sd_rgi (xs (x3 + 2).toNatClampNeg))
  refine lv_aload_n hx hb dl_331 rfl (lv_at hl 1 rfl) ?_
  refine lv_aload_n hx hb dl_332 rfl (lv_at hl 0 rfl) ?_
  refine lv_iload_n hx hb dl_333 rfl (lv_at hl 3 rfl) ?_
  refine lv_iconst (v := 1) hx hb dl_334 (by decide) ?_
  refine lv_iadd hx hb dl_335 ?_
  refine va_sld hx hb hXs hbl hbA hS (sd_lin ex3 hi hL 1 (by decide)) dl_336 ?_
  refine lv_aload_n hx hb dl_337 rfl (lv_at hl 0 rfl) ?_
  refine lv_iload_n hx hb dl_338 rfl (lv_at hl 3 rfl) ?_
  refine lv_iconst (v := 2) hx hb dl_339 (by decide) ?_
  refine lv_iadd hx hb dl_340 ?_
  refine va_sld hx hb hXs hbl hbA hS (sd_lin ex3 hi hL 2 (by decide)) dl_341 ?_
  refine sd_lcall (M := M) (M2 := M1) (r := r) (a := 0) C0 hX hK hN hSS [xs (x3 + 1).toNatClampNeg, xs (x3 + 2).toNatClampNeg] sd_i_X9_offer (List.mem_of_getElem? (i := 669) rfl) (List.mem_of_getElem? (i := 670) rfl) (List.mem_of_getElem? (i := 671) rfl) (List.mem_of_getElem? (i := 116) rfl) rfl sd_o_0 (m_X9_offer (by omega) e1) hW hP hD hS hqx hl.1 (Nat.le_of_ble_eq_true rfl) dl_342 ⟨Nat.le_of_ble_eq_true rfl, Nat.le_of_ble_eq_true rfl⟩ rfl (fun rv ws1 H1 locs1 hrv hW1 hP1 hD1 hS1 hex1 => ?_)
  refine lv_aload_n hx hb dl_345 rfl (lv_at hl 2 rfl) ?_
  refine lv_aload_n hx hb dl_346 rfl (lv_at hl 0 rfl) ?_
  refine lv_iload_n hx hb dl_347 rfl (lv_at hl 3 rfl) ?_
  refine lv_iconst (v := 1) hx hb dl_348 (by decide) ?_
  refine lv_iadd hx hb dl_349 ?_
  refine va_sld hx hb hXs hbl hbA hS1 (sd_lin ex3 hi hL 1 (by decide)) dl_350 ?_
  refine lv_aload_n hx hb dl_351 rfl (lv_at hl 0 rfl) ?_
  refine lv_iload_n hx hb dl_352 rfl (lv_at hl 3 rfl) ?_
  refine lv_iconst (v := 2) hx hb dl_353 (by decide) ?_
  refine lv_iadd hx hb dl_354 ?_
  refine va_sld hx hb hXs hbl hbA hS1 (sd_lin ex3 hi hL 2 (by decide)) dl_355 ?_
  refine sd_lcall (M := M1) (M2 := M2) (r := r) (a := 331) C0 hX hK hN hSS [xs (x3 + 1).toNatClampNeg, xs (x3 + 2).toNatClampNeg] sd_i_X10_offer (List.mem_of_getElem? (i := 1340) rfl) (List.mem_of_getElem? (i := 1341) rfl) (List.mem_of_getElem? (i := 1342) rfl) (List.mem_of_getElem? (i := 126) rfl) rfl sd_o_331 (m_X10_offer (by omega) e2) hW1 hP1 hD1 hS1 (sd_ext_get hex1 hqm) hl.1 (Nat.le_of_ble_eq_true rfl) dl_356 ⟨Nat.le_of_ble_eq_true rfl, Nat.le_of_ble_eq_true rfl⟩ rfl (fun rv2 ws2 H2 locs2 hrv2 hW2 hP2 hD2 hS2 hex2 => ?_)
  refine lv_icmp_eq (tgt := 1187) hx hb dl_359 (by decide) (fun c1 => ?_) (fun c1 => absurd (Int32.toInt_inj.mp (hrv.trans hrv2.symm)) c1)
  exact kk M2 ws2 H2 locs2 hI hW2 hP2 hD2 hS2 (sd_ext_get hex2 (sd_ext_get hex1 hqx)) (sd_ext_get hex2 (sd_ext_get hex1 hqm))
set_option maxRecDepth 10000 in
theorem lc_need {p : Program} {l : Launch} {e : Env} {s : State} {m : MethodId} {below : List Frame} {meth : Method} {c : Code} {b L : Nat} {xs : Nat → Int32} {D : va_G} {Q : State → Prop} (hL : L ≤ 3072) (C0 : lw_At p s m meth c b L xs) (hX : ∀ d j As E Ra, sd_X j As E Ra → sd_Snd l d j As E Ra) (hK : va_K D vwCl [] s) (hN : sd_NW s) (hSS : sd_SS (sd_LA s) s s.heap) {Inv : sd_M → Prop} (hs : sd_S3 Inv f_X9_need f_X10_need) {M : sd_M} (hM : Inv M) {ws : va_W} {H : Heap} {locs : List Loc} {ls : Array Slot} {qx qm i : Nat} {x3 : Int32} (hi : i + 6 ≤ L) (ex3 : x3 = nI i) (hW : sd_RW s (sd_rp M) ws) (hP : va_P D vwCl ws H) (hD : va_D (sd_LA s) ws) (hS : va_S (sd_LA s) s.heap H locs) (hqx : (ws.map (fun q => q.1))[0]? = some qx) (hqm : (ws.map (fun q => q.1))[331]? = some qm) (hl : lv_has ls 4 [(0, .ref b), (1, .ref qx), (2, .ref qm), (3, .int x3)])
    (kk : ∀ (M2 : sd_M) (ws2 : va_W) (H1 : Heap) (locs1 : List Loc), Inv M2 → sd_RW s (sd_rp M2) ws2 → va_P D vwCl ws2 H1 → va_D (sd_LA s) ws2 → va_S (sd_LA s) s.heap H1 locs1 → (ws2.map (fun q => q.1))[0]? = some qx → (ws2.map (fun q => q.1))[331]? = some qm → W p l e room_1 s m #[Value.ref b] below meth c H1 locs1 357 15544 Q (F0 m 1187 ls [])) : W p l e room_1 s m #[Value.ref b] below meth c H locs 357 15544 Q (F0 m 364 ls []) := by
  obtain ⟨hx, hb, hr, hml, hown, hts, hXs, hbl, hlocks, hgv⟩ := id C0
  have hbA : ¬ sd_LA s b := Nat.not_le.mpr hbl
  obtain ⟨r, M1, M2, e1, e2, hI⟩ := hs M hM _ _ _ (sd_rgi (xs (x3 + 1).toNatClampNeg)) (sd_rgi (xs (x3 + 2).toNatClampNeg)) (sd_rgi (xs (x3 + 3).toNatClampNeg))
  refine lv_aload_n hx hb dl_364 rfl (lv_at hl 1 rfl) ?_
  refine lv_aload_n hx hb dl_365 rfl (lv_at hl 0 rfl) ?_
  refine lv_iload_n hx hb dl_366 rfl (lv_at hl 3 rfl) ?_
  refine lv_iconst (v := 1) hx hb dl_367 (by decide) ?_
  refine lv_iadd hx hb dl_368 ?_
  refine va_sld hx hb hXs hbl hbA hS (sd_lin ex3 hi hL 1 (by decide)) dl_369 ?_
  refine lv_aload_n hx hb dl_370 rfl (lv_at hl 0 rfl) ?_
  refine lv_iload_n hx hb dl_371 rfl (lv_at hl 3 rfl) ?_
  refine lv_iconst (v := 2) hx hb dl_372 (by decide) ?_
  refine lv_iadd hx hb dl_373 ?_
  refine va_sld hx hb hXs hbl hbA hS (sd_lin ex3 hi hL 2 (by decide)) dl_374 ?_
  refine lv_aload_n hx hb dl_375 rfl (lv_at hl 0 rfl) ?_
  refine lv_iload_n hx hb dl_376 rfl (lv_at hl 3 rfl) ?_
  refine lv_iconst (v := 3) hx hb dl_377 (by decide) ?_
  refine lv_iadd hx hb dl_378 ?_
  refine va_sld hx hb hXs hbl hbA hS (sd_lin ex3 hi hL 3 (by decide)) dl_379 ?_
  refine sd_lcall (M := M) (M2 := M1) (r := r) (a := 0) C0 hX hK hN hSS [xs (x3 + 1).toNatClampNeg, xs (x3 + 2).toNatClampNeg, xs (x3 + 3).toNatClampNeg] sd_i_X9_need (List.mem_of_getElem? (i := 677) rfl) (List.mem_of_getElem? (i := 678) rfl) (List.mem_of_getElem? (i := 679) rfl) (List.mem_of_getElem? (i := 116) rfl) rfl sd_o_0 (m_X9_need (by omega) e1) hW hP hD hS hqx hl.1 (Nat.le_of_ble_eq_true rfl) dl_380 ⟨Nat.le_of_ble_eq_true rfl, Nat.le_of_ble_eq_true rfl⟩ rfl (fun rv ws1 H1 locs1 hrv hW1 hP1 hD1 hS1 hex1 => ?_)
  refine lv_aload_n hx hb dl_383 rfl (lv_at hl 2 rfl) ?_
  refine lv_aload_n hx hb dl_384 rfl (lv_at hl 0 rfl) ?_
  refine lv_iload_n hx hb dl_385 rfl (lv_at hl 3 rfl) ?_
  refine lv_iconst (v := 1) hx hb dl_386 (by decide) ?_
  refine lv_iadd hx hb dl_387 ?_
  refine va_sld hx hb hXs hbl hbA hS1 (sd_lin ex3 hi hL 1 (by decide)) dl_388 ?_
  refine lv_aload_n hx hb dl_389 rfl (lv_at hl 0 rfl) ?_
  refine lv_iload_n hx hb dl_390 rfl (lv_at hl 3 rfl) ?_
  refine lv_iconst (v := 2) hx hb dl_391 (by decide) ?_
  refine lv_iadd hx hb dl_392 ?_
  refine va_sld hx hb hXs hbl hbA hS1 (sd_lin ex3 hi hL 2 (by decide)) dl_393 ?_
  refine lv_aload_n hx hb dl_394 rfl (lv_at hl 0 rfl) ?_
  refine lv_iload_n hx hb dl_395 rfl (lv_at hl 3 rfl) ?_
  refine lv_iconst (v := 3) hx hb dl_396 (by decide) ?_
  refine lv_iadd hx hb dl_397 ?_
  refine va_sld hx hb hXs hbl hbA hS1 (sd_lin ex3 hi hL 3 (by decide)) dl_398 ?_
  refine sd_lcall (M := M1) (M2 := M2) (r := r) (a := 331) C0 hX hK hN hSS [xs (x3 + 1).toNatClampNeg, xs (x3 + 2).toNatClampNeg, xs (x3 + 3).toNatClampNeg] sd_i_X10_need (List.mem_of_getElem? (i := 1372) rfl) (List.mem_of_getElem? (i := 1373) rfl) (List.mem_of_getElem? (i := 1374) rfl) (List.mem_of_getElem? (i := 126) rfl) rfl sd_o_331 (m_X10_need (by omega) e2) hW1 hP1 hD1 hS1 (sd_ext_get hex1 hqm) hl.1 (Nat.le_of_ble_eq_true rfl) dl_399 ⟨Nat.le_of_ble_eq_true rfl, Nat.le_of_ble_eq_true rfl⟩ rfl (fun rv2 ws2 H2 locs2 hrv2 hW2 hP2 hD2 hS2 hex2 => ?_)
  refine lv_icmp_eq (tgt := 1187) hx hb dl_402 (by decide) (fun c1 => ?_) (fun c1 => absurd (Int32.toInt_inj.mp (hrv.trans hrv2.symm)) c1)
  exact kk M2 ws2 H2 locs2 hI hW2 hP2 hD2 hS2 (sd_ext_get hex2 (sd_ext_get hex1 hqx)) (sd_ext_get hex2 (sd_ext_get hex1 hqm))
set_option maxRecDepth 10000 in
theorem lc_line {p : Program} {l : Launch} {e : Env} {s : State} {m : MethodId} {below : List Frame} {meth : Method} {c : Code} {b L : Nat} {xs : Nat → Int32} {D : va_G} {Q : State → Prop} (hL : L ≤ 3072) (C0 : lw_At p s m meth c b L xs) (hX : ∀ d j As E Ra, sd_X j As E Ra → sd_Snd l d j As E Ra) (hK : va_K D vwCl [] s) (hN : sd_NW s) (hSS : sd_SS (sd_LA s) s s.heap) {Inv : sd_M → Prop} (hs : sd_S1 Inv f_X9_line f_X10_line) {M : sd_M} (hM : Inv M) {ws : va_W} {H : Heap} {locs : List Loc} {ls : Array Slot} {qx qm i : Nat} {x3 : Int32} (hi : i + 6 ≤ L) (ex3 : x3 = nI i) (hW : sd_RW s (sd_rp M) ws) (hP : va_P D vwCl ws H) (hD : va_D (sd_LA s) ws) (hS : va_S (sd_LA s) s.heap H locs) (hqx : (ws.map (fun q => q.1))[0]? = some qx) (hqm : (ws.map (fun q => q.1))[331]? = some qm) (hl : lv_has ls 4 [(0, .ref b), (1, .ref qx), (2, .ref qm), (3, .int x3)])
    (kk : ∀ (M2 : sd_M) (ws2 : va_W) (H1 : Heap) (locs1 : List Loc), Inv M2 → sd_RW s (sd_rp M2) ws2 → va_P D vwCl ws2 H1 → va_D (sd_LA s) ws2 → va_S (sd_LA s) s.heap H1 locs1 → (ws2.map (fun q => q.1))[0]? = some qx → (ws2.map (fun q => q.1))[331]? = some qm → W p l e room_1 s m #[Value.ref b] below meth c H1 locs1 357 15544 Q (F0 m 1187 ls [])) : W p l e room_1 s m #[Value.ref b] below meth c H locs 357 15544 Q (F0 m 407 ls []) := by
  obtain ⟨hx, hb, hr, hml, hown, hts, hXs, hbl, hlocks, hgv⟩ := id C0
  have hbA : ¬ sd_LA s b := Nat.not_le.mpr hbl
  obtain ⟨r, M1, M2, e1, e2, hI⟩ := hs M hM _ (sd_rgi (xs (x3 + 1).toNatClampNeg))
  refine lv_aload_n hx hb dl_407 rfl (lv_at hl 1 rfl) ?_
  refine lv_aload_n hx hb dl_408 rfl (lv_at hl 0 rfl) ?_
  refine lv_iload_n hx hb dl_409 rfl (lv_at hl 3 rfl) ?_
  refine lv_iconst (v := 1) hx hb dl_410 (by decide) ?_
  refine lv_iadd hx hb dl_411 ?_
  refine va_sld hx hb hXs hbl hbA hS (sd_lin ex3 hi hL 1 (by decide)) dl_412 ?_
  refine sd_lcall (M := M) (M2 := M1) (r := r) (a := 0) C0 hX hK hN hSS [xs (x3 + 1).toNatClampNeg] sd_i_X9_line (List.mem_of_getElem? (i := 705) rfl) (List.mem_of_getElem? (i := 706) rfl) (List.mem_of_getElem? (i := 707) rfl) (List.mem_of_getElem? (i := 116) rfl) rfl sd_o_0 (m_X9_line (by omega) e1) hW hP hD hS hqx hl.1 (Nat.le_of_ble_eq_true rfl) dl_413 ⟨Nat.le_of_ble_eq_true rfl, Nat.le_of_ble_eq_true rfl⟩ rfl (fun rv ws1 H1 locs1 hrv hW1 hP1 hD1 hS1 hex1 => ?_)
  refine lv_aload_n hx hb dl_416 rfl (lv_at hl 2 rfl) ?_
  refine lv_aload_n hx hb dl_417 rfl (lv_at hl 0 rfl) ?_
  refine lv_iload_n hx hb dl_418 rfl (lv_at hl 3 rfl) ?_
  refine lv_iconst (v := 1) hx hb dl_419 (by decide) ?_
  refine lv_iadd hx hb dl_420 ?_
  refine va_sld hx hb hXs hbl hbA hS1 (sd_lin ex3 hi hL 1 (by decide)) dl_421 ?_
  refine sd_lcall (M := M1) (M2 := M2) (r := r) (a := 331) C0 hX hK hN hSS [xs (x3 + 1).toNatClampNeg] sd_i_X10_line (List.mem_of_getElem? (i := 1389) rfl) (List.mem_of_getElem? (i := 1390) rfl) (List.mem_of_getElem? (i := 1391) rfl) (List.mem_of_getElem? (i := 126) rfl) rfl sd_o_331 (m_X10_line (by omega) e2) hW1 hP1 hD1 hS1 (sd_ext_get hex1 hqm) hl.1 (Nat.le_of_ble_eq_true rfl) dl_422 ⟨Nat.le_of_ble_eq_true rfl, Nat.le_of_ble_eq_true rfl⟩ rfl (fun rv2 ws2 H2 locs2 hrv2 hW2 hP2 hD2 hS2 hex2 => ?_)
  refine lv_icmp_eq (tgt := 1187) hx hb dl_425 (by decide) (fun c1 => ?_) (fun c1 => absurd (Int32.toInt_inj.mp (hrv.trans hrv2.symm)) c1)
  exact kk M2 ws2 H2 locs2 hI hW2 hP2 hD2 hS2 (sd_ext_get hex2 (sd_ext_get hex1 hqx)) (sd_ext_get hex2 (sd_ext_get hex1 hqm))
set_option maxRecDepth 10000 in
theorem lc_out {p : Program} {l : Launch} {e : Env} {s : State} {m : MethodId} {below : List Frame} {meth : Method} {c : Code} {b L : Nat} {xs : Nat → Int32} {D : va_G} {Q : State → Prop} (hL : L ≤ 3072) (C0 : lw_At p s m meth c b L xs) (hX : ∀ d j As E Ra, sd_X j As E Ra → sd_Snd l d j As E Ra) (hK : va_K D vwCl [] s) (hN : sd_NW s) (hSS : sd_SS (sd_LA s) s s.heap) {Inv : sd_M → Prop} (hs : sd_S1 Inv f_X9_out f_X10_out) {M : sd_M} (hM : Inv M) {ws : va_W} {H : Heap} {locs : List Loc} {ls : Array Slot} {qx qm i : Nat} {x3 : Int32} (hi : i + 6 ≤ L) (ex3 : x3 = nI i) (hW : sd_RW s (sd_rp M) ws) (hP : va_P D vwCl ws H) (hD : va_D (sd_LA s) ws) (hS : va_S (sd_LA s) s.heap H locs) (hqx : (ws.map (fun q => q.1))[0]? = some qx) (hqm : (ws.map (fun q => q.1))[331]? = some qm) (hl : lv_has ls 4 [(0, .ref b), (1, .ref qx), (2, .ref qm), (3, .int x3)])
    (kk : ∀ (M2 : sd_M) (ws2 : va_W) (H1 : Heap) (locs1 : List Loc), Inv M2 → sd_RW s (sd_rp M2) ws2 → va_P D vwCl ws2 H1 → va_D (sd_LA s) ws2 → va_S (sd_LA s) s.heap H1 locs1 → (ws2.map (fun q => q.1))[0]? = some qx → (ws2.map (fun q => q.1))[331]? = some qm → W p l e room_1 s m #[Value.ref b] below meth c H1 locs1 357 15544 Q (F0 m 1187 ls [])) : W p l e room_1 s m #[Value.ref b] below meth c H locs 357 15544 Q (F0 m 430 ls []) := by
  obtain ⟨hx, hb, hr, hml, hown, hts, hXs, hbl, hlocks, hgv⟩ := id C0
  have hbA : ¬ sd_LA s b := Nat.not_le.mpr hbl
  obtain ⟨r, M1, M2, e1, e2, hI⟩ := hs M hM _ (sd_rgi (xs (x3 + 1).toNatClampNeg))
  refine lv_aload_n hx hb dl_430 rfl (lv_at hl 1 rfl) ?_
  refine lv_aload_n hx hb dl_431 rfl (lv_at hl 0 rfl) ?_
  refine lv_iload_n hx hb dl_432 rfl (lv_at hl 3 rfl) ?_
  refine lv_iconst (v := 1) hx hb dl_433 (by decide) ?_
  refine lv_iadd hx hb dl_434 ?_
  refine va_sld hx hb hXs hbl hbA hS (sd_lin ex3 hi hL 1 (by decide)) dl_435 ?_
  refine sd_lcall (M := M) (M2 := M1) (r := r) (a := 0) C0 hX hK hN hSS [xs (x3 + 1).toNatClampNeg] sd_i_X9_out (List.mem_of_getElem? (i := 709) rfl) (List.mem_of_getElem? (i := 710) rfl) (List.mem_of_getElem? (i := 711) rfl) (List.mem_of_getElem? (i := 116) rfl) rfl sd_o_0 (m_X9_out (by omega) e1) hW hP hD hS hqx hl.1 (Nat.le_of_ble_eq_true rfl) dl_436 ⟨Nat.le_of_ble_eq_true rfl, Nat.le_of_ble_eq_true rfl⟩ rfl (fun rv ws1 H1 locs1 hrv hW1 hP1 hD1 hS1 hex1 => ?_)
  refine lv_aload_n hx hb dl_439 rfl (lv_at hl 2 rfl) ?_
  refine lv_aload_n hx hb dl_440 rfl (lv_at hl 0 rfl) ?_
  refine lv_iload_n hx hb dl_441 rfl (lv_at hl 3 rfl) ?_
  refine lv_iconst (v := 1) hx hb dl_442 (by decide) ?_
  refine lv_iadd hx hb dl_443 ?_
  refine va_sld hx hb hXs hbl hbA hS1 (sd_lin ex3 hi hL 1 (by decide)) dl_444 ?_
  refine sd_lcall (M := M1) (M2 := M2) (r := r) (a := 331) C0 hX hK hN hSS [xs (x3 + 1).toNatClampNeg] sd_i_X10_out (List.mem_of_getElem? (i := 1393) rfl) (List.mem_of_getElem? (i := 1394) rfl) (List.mem_of_getElem? (i := 1395) rfl) (List.mem_of_getElem? (i := 126) rfl) rfl sd_o_331 (m_X10_out (by omega) e2) hW1 hP1 hD1 hS1 (sd_ext_get hex1 hqm) hl.1 (Nat.le_of_ble_eq_true rfl) dl_445 ⟨Nat.le_of_ble_eq_true rfl, Nat.le_of_ble_eq_true rfl⟩ rfl (fun rv2 ws2 H2 locs2 hrv2 hW2 hP2 hD2 hS2 hex2 => ?_)
  refine lv_icmp_eq (tgt := 1187) hx hb dl_448 (by decide) (fun c1 => ?_) (fun c1 => absurd (Int32.toInt_inj.mp (hrv.trans hrv2.symm)) c1)
  exact kk M2 ws2 H2 locs2 hI hW2 hP2 hD2 hS2 (sd_ext_get hex2 (sd_ext_get hex1 hqx)) (sd_ext_get hex2 (sd_ext_get hex1 hqm))
set_option maxRecDepth 10000 in
theorem lc_day {p : Program} {l : Launch} {e : Env} {s : State} {m : MethodId} {below : List Frame} {meth : Method} {c : Code} {b L : Nat} {xs : Nat → Int32} {D : va_G} {Q : State → Prop} (hL : L ≤ 3072) (C0 : lw_At p s m meth c b L xs) (hX : ∀ d j As E Ra, sd_X j As E Ra → sd_Snd l d j As E Ra) (hK : va_K D vwCl [] s) (hN : sd_NW s) (hSS : sd_SS (sd_LA s) s s.heap) {Inv : sd_M → Prop} (hs : sd_S0 Inv f_X9_day f_X10_day) {M : sd_M} (hM : Inv M) {ws : va_W} {H : Heap} {locs : List Loc} {ls : Array Slot} {qx qm i : Nat} {x3 : Int32} (hi : i + 6 ≤ L) (ex3 : x3 = nI i) (hW : sd_RW s (sd_rp M) ws) (hP : va_P D vwCl ws H) (hD : va_D (sd_LA s) ws) (hS : va_S (sd_LA s) s.heap H locs) (hqx : (ws.map (fun q => q.1))[0]? = some qx) (hqm : (ws.map (fun q => q.1))[331]? = some qm) (hl : lv_has ls 4 [(0, .ref b), (1, .ref qx), (2, .ref qm), (3, .int x3)])
    (kk : ∀ (M2 : sd_M) (ws2 : va_W) (H1 : Heap) (locs1 : List Loc), Inv M2 → sd_RW s (sd_rp M2) ws2 → va_P D vwCl ws2 H1 → va_D (sd_LA s) ws2 → va_S (sd_LA s) s.heap H1 locs1 → (ws2.map (fun q => q.1))[0]? = some qx → (ws2.map (fun q => q.1))[331]? = some qm → W p l e room_1 s m #[Value.ref b] below meth c H1 locs1 357 15544 Q (F0 m 1187 ls [])) : W p l e room_1 s m #[Value.ref b] below meth c H locs 357 15544 Q (F0 m 453 ls []) := by
  obtain ⟨hx, hb, hr, hml, hown, hts, hXs, hbl, hlocks, hgv⟩ := id C0
  have hbA : ¬ sd_LA s b := Nat.not_le.mpr hbl
  obtain ⟨r, M1, M2, e1, e2, hI⟩ := hs M hM
  refine lv_aload_n hx hb dl_453 rfl (lv_at hl 1 rfl) ?_
  refine sd_lcall (M := M) (M2 := M1) (r := r) (a := 0) C0 hX hK hN hSS [] sd_i_X9_day (List.mem_of_getElem? (i := 731) rfl) (List.mem_of_getElem? (i := 732) rfl) (List.mem_of_getElem? (i := 733) rfl) (List.mem_of_getElem? (i := 116) rfl) rfl sd_o_0 (m_X9_day (by omega) e1) hW hP hD hS hqx hl.1 (Nat.le_of_ble_eq_true rfl) dl_454 ⟨Nat.le_of_ble_eq_true rfl, Nat.le_of_ble_eq_true rfl⟩ rfl (fun rv ws1 H1 locs1 hrv hW1 hP1 hD1 hS1 hex1 => ?_)
  refine lv_aload_n hx hb dl_457 rfl (lv_at hl 2 rfl) ?_
  refine sd_lcall (M := M1) (M2 := M2) (r := r) (a := 331) C0 hX hK hN hSS [] sd_i_X10_day (List.mem_of_getElem? (i := 1401) rfl) (List.mem_of_getElem? (i := 1402) rfl) (List.mem_of_getElem? (i := 1403) rfl) (List.mem_of_getElem? (i := 126) rfl) rfl sd_o_331 (m_X10_day (by omega) e2) hW1 hP1 hD1 hS1 (sd_ext_get hex1 hqm) hl.1 (Nat.le_of_ble_eq_true rfl) dl_458 ⟨Nat.le_of_ble_eq_true rfl, Nat.le_of_ble_eq_true rfl⟩ rfl (fun rv2 ws2 H2 locs2 hrv2 hW2 hP2 hD2 hS2 hex2 => ?_)
  refine lv_icmp_eq (tgt := 1187) hx hb dl_461 (by decide) (fun c1 => ?_) (fun c1 => absurd (Int32.toInt_inj.mp (hrv.trans hrv2.symm)) c1)
  exact kk M2 ws2 H2 locs2 hI hW2 hP2 hD2 hS2 (sd_ext_get hex2 (sd_ext_get hex1 hqx)) (sd_ext_get hex2 (sd_ext_get hex1 hqm))
set_option maxRecDepth 10000 in
theorem lc_cancel {p : Program} {l : Launch} {e : Env} {s : State} {m : MethodId} {below : List Frame} {meth : Method} {c : Code} {b L : Nat} {xs : Nat → Int32} {D : va_G} {Q : State → Prop} (hL : L ≤ 3072) (C0 : lw_At p s m meth c b L xs) (hX : ∀ d j As E Ra, sd_X j As E Ra → sd_Snd l d j As E Ra) (hK : va_K D vwCl [] s) (hN : sd_NW s) (hSS : sd_SS (sd_LA s) s s.heap) {Inv : sd_M → Prop} (hs : sd_S1 Inv f_X9_cancel f_X10_cancel) {M : sd_M} (hM : Inv M) {ws : va_W} {H : Heap} {locs : List Loc} {ls : Array Slot} {qx qm i : Nat} {x3 : Int32} (hi : i + 6 ≤ L) (ex3 : x3 = nI i) (hW : sd_RW s (sd_rp M) ws) (hP : va_P D vwCl ws H) (hD : va_D (sd_LA s) ws) (hS : va_S (sd_LA s) s.heap H locs) (hqx : (ws.map (fun q => q.1))[0]? = some qx) (hqm : (ws.map (fun q => q.1))[331]? = some qm) (hl : lv_has ls 4 [(0, .ref b), (1, .ref qx), (2, .ref qm), (3, .int x3)])
    (kk : ∀ (M2 : sd_M) (ws2 : va_W) (H1 : Heap) (locs1 : List Loc), Inv M2 → sd_RW s (sd_rp M2) ws2 → va_P D vwCl ws2 H1 → va_D (sd_LA s) ws2 → va_S (sd_LA s) s.heap H1 locs1 → (ws2.map (fun q => q.1))[0]? = some qx → (ws2.map (fun q => q.1))[331]? = some qm → W p l e room_1 s m #[Value.ref b] below meth c H1 locs1 357 15544 Q (F0 m 1187 ls [])) : W p l e room_1 s m #[Value.ref b] below meth c H locs 357 15544 Q (F0 m 466 ls []) := by
  obtain ⟨hx, hb, hr, hml, hown, hts, hXs, hbl, hlocks, hgv⟩ := id C0
  have hbA : ¬ sd_LA s b := Nat.not_le.mpr hbl
  obtain ⟨r, M1, M2, e1, e2, hI⟩ := hs M hM _ (sd_rgi (xs (x3 + 1).toNatClampNeg))
  refine lv_aload_n hx hb dl_466 rfl (lv_at hl 1 rfl) ?_
  refine lv_aload_n hx hb dl_467 rfl (lv_at hl 0 rfl) ?_
  refine lv_iload_n hx hb dl_468 rfl (lv_at hl 3 rfl) ?_
  refine lv_iconst (v := 1) hx hb dl_469 (by decide) ?_
  refine lv_iadd hx hb dl_470 ?_
  refine va_sld hx hb hXs hbl hbA hS (sd_lin ex3 hi hL 1 (by decide)) dl_471 ?_
  refine sd_lcall (M := M) (M2 := M1) (r := r) (a := 0) C0 hX hK hN hSS [xs (x3 + 1).toNatClampNeg] sd_i_X9_cancel (List.mem_of_getElem? (i := 821) rfl) (List.mem_of_getElem? (i := 822) rfl) (List.mem_of_getElem? (i := 823) rfl) (List.mem_of_getElem? (i := 116) rfl) rfl sd_o_0 (m_X9_cancel (by omega) e1) hW hP hD hS hqx hl.1 (Nat.le_of_ble_eq_true rfl) dl_472 ⟨Nat.le_of_ble_eq_true rfl, Nat.le_of_ble_eq_true rfl⟩ rfl (fun rv ws1 H1 locs1 hrv hW1 hP1 hD1 hS1 hex1 => ?_)
  refine lv_aload_n hx hb dl_475 rfl (lv_at hl 2 rfl) ?_
  refine lv_aload_n hx hb dl_476 rfl (lv_at hl 0 rfl) ?_
  refine lv_iload_n hx hb dl_477 rfl (lv_at hl 3 rfl) ?_
  refine lv_iconst (v := 1) hx hb dl_478 (by decide) ?_
  refine lv_iadd hx hb dl_479 ?_
  refine va_sld hx hb hXs hbl hbA hS1 (sd_lin ex3 hi hL 1 (by decide)) dl_480 ?_
  refine sd_lcall (M := M1) (M2 := M2) (r := r) (a := 331) C0 hX hK hN hSS [xs (x3 + 1).toNatClampNeg] sd_i_X10_cancel (List.mem_of_getElem? (i := 1471) rfl) (List.mem_of_getElem? (i := 1472) rfl) (List.mem_of_getElem? (i := 1473) rfl) (List.mem_of_getElem? (i := 126) rfl) rfl sd_o_331 (m_X10_cancel (by omega) e2) hW1 hP1 hD1 hS1 (sd_ext_get hex1 hqm) hl.1 (Nat.le_of_ble_eq_true rfl) dl_481 ⟨Nat.le_of_ble_eq_true rfl, Nat.le_of_ble_eq_true rfl⟩ rfl (fun rv2 ws2 H2 locs2 hrv2 hW2 hP2 hD2 hS2 hex2 => ?_)
  refine lv_icmp_eq (tgt := 1187) hx hb dl_484 (by decide) (fun c1 => ?_) (fun c1 => absurd (Int32.toInt_inj.mp (hrv.trans hrv2.symm)) c1)
  exact kk M2 ws2 H2 locs2 hI hW2 hP2 hD2 hS2 (sd_ext_get hex2 (sd_ext_get hex1 hqx)) (sd_ext_get hex2 (sd_ext_get hex1 hqm))
set_option maxRecDepth 10000 in
theorem lc_order {p : Program} {l : Launch} {e : Env} {s : State} {m : MethodId} {below : List Frame} {meth : Method} {c : Code} {b L : Nat} {xs : Nat → Int32} {D : va_G} {Q : State → Prop} (hL : L ≤ 3072) (C0 : lw_At p s m meth c b L xs) (hX : ∀ d j As E Ra, sd_X j As E Ra → sd_Snd l d j As E Ra) (hK : va_K D vwCl [] s) (hN : sd_NW s) (hSS : sd_SS (sd_LA s) s s.heap) {Inv : sd_M → Prop} (hs : sd_S1 Inv f_X9_order f_X10_order) {M : sd_M} (hM : Inv M) {ws : va_W} {H : Heap} {locs : List Loc} {ls : Array Slot} {qx qm i : Nat} {x3 : Int32} (hi : i + 6 ≤ L) (ex3 : x3 = nI i) (hW : sd_RW s (sd_rp M) ws) (hP : va_P D vwCl ws H) (hD : va_D (sd_LA s) ws) (hS : va_S (sd_LA s) s.heap H locs) (hqx : (ws.map (fun q => q.1))[0]? = some qx) (hqm : (ws.map (fun q => q.1))[331]? = some qm) (hl : lv_has ls 4 [(0, .ref b), (1, .ref qx), (2, .ref qm), (3, .int x3)])
    (kk : ∀ (M2 : sd_M) (ws2 : va_W) (H1 : Heap) (locs1 : List Loc), Inv M2 → sd_RW s (sd_rp M2) ws2 → va_P D vwCl ws2 H1 → va_D (sd_LA s) ws2 → va_S (sd_LA s) s.heap H1 locs1 → (ws2.map (fun q => q.1))[0]? = some qx → (ws2.map (fun q => q.1))[331]? = some qm → W p l e room_1 s m #[Value.ref b] below meth c H1 locs1 357 15544 Q (F0 m 1187 ls [])) : W p l e room_1 s m #[Value.ref b] below meth c H locs 357 15544 Q (F0 m 489 ls []) := by
  obtain ⟨hx, hb, hr, hml, hown, hts, hXs, hbl, hlocks, hgv⟩ := id C0
  have hbA : ¬ sd_LA s b := Nat.not_le.mpr hbl
  obtain ⟨r, M1, M2, e1, e2, hI⟩ := hs M hM _ (sd_rgi (xs (x3 + 1).toNatClampNeg))
  refine lv_aload_n hx hb dl_489 rfl (lv_at hl 1 rfl) ?_
  refine lv_aload_n hx hb dl_490 rfl (lv_at hl 0 rfl) ?_
  refine lv_iload_n hx hb dl_491 rfl (lv_at hl 3 rfl) ?_
  refine lv_iconst (v := 1) hx hb dl_492 (by decide) ?_
  refine lv_iadd hx hb dl_493 ?_
  refine va_sld hx hb hXs hbl hbA hS (sd_lin ex3 hi hL 1 (by decide)) dl_494 ?_
  refine sd_lcall (M := M) (M2 := M1) (r := r) (a := 0) C0 hX hK hN hSS [xs (x3 + 1).toNatClampNeg] sd_i_X9_order (List.mem_of_getElem? (i := 830) rfl) (List.mem_of_getElem? (i := 831) rfl) (List.mem_of_getElem? (i := 832) rfl) (List.mem_of_getElem? (i := 116) rfl) rfl sd_o_0 (m_X9_order (by omega) e1) hW hP hD hS hqx hl.1 (Nat.le_of_ble_eq_true rfl) dl_495 ⟨Nat.le_of_ble_eq_true rfl, Nat.le_of_ble_eq_true rfl⟩ rfl (fun rv ws1 H1 locs1 hrv hW1 hP1 hD1 hS1 hex1 => ?_)
  refine lv_aload_n hx hb dl_498 rfl (lv_at hl 2 rfl) ?_
  refine lv_aload_n hx hb dl_499 rfl (lv_at hl 0 rfl) ?_
  refine lv_iload_n hx hb dl_500 rfl (lv_at hl 3 rfl) ?_
  refine lv_iconst (v := 1) hx hb dl_501 (by decide) ?_
  refine lv_iadd hx hb dl_502 ?_
  refine va_sld hx hb hXs hbl hbA hS1 (sd_lin ex3 hi hL 1 (by decide)) dl_503 ?_
  refine sd_lcall (M := M1) (M2 := M2) (r := r) (a := 331) C0 hX hK hN hSS [xs (x3 + 1).toNatClampNeg] sd_i_X10_order (List.mem_of_getElem? (i := 1479) rfl) (List.mem_of_getElem? (i := 1480) rfl) (List.mem_of_getElem? (i := 1481) rfl) (List.mem_of_getElem? (i := 126) rfl) rfl sd_o_331 (m_X10_order (by omega) e2) hW1 hP1 hD1 hS1 (sd_ext_get hex1 hqm) hl.1 (Nat.le_of_ble_eq_true rfl) dl_504 ⟨Nat.le_of_ble_eq_true rfl, Nat.le_of_ble_eq_true rfl⟩ rfl (fun rv2 ws2 H2 locs2 hrv2 hW2 hP2 hD2 hS2 hex2 => ?_)
  refine lv_icmp_eq (tgt := 1187) hx hb dl_507 (by decide) (fun c1 => ?_) (fun c1 => absurd (Int32.toInt_inj.mp (hrv.trans hrv2.symm)) c1)
  exact kk M2 ws2 H2 locs2 hI hW2 hP2 hD2 hS2 (sd_ext_get hex2 (sd_ext_get hex1 hqx)) (sd_ext_get hex2 (sd_ext_get hex1 hqm))
set_option maxRecDepth 10000 in
theorem lc_write {p : Program} {l : Launch} {e : Env} {s : State} {m : MethodId} {below : List Frame} {meth : Method} {c : Code} {b L : Nat} {xs : Nat → Int32} {D : va_G} {Q : State → Prop} (hL : L ≤ 3072) (C0 : lw_At p s m meth c b L xs) (hX : ∀ d j As E Ra, sd_X j As E Ra → sd_Snd l d j As E Ra) (hK : va_K D vwCl [] s) (hN : sd_NW s) (hSS : sd_SS (sd_LA s) s s.heap) {Inv : sd_M → Prop} (hs : sd_S2 Inv f_X9_write f_X10_write) {M : sd_M} (hM : Inv M) {ws : va_W} {H : Heap} {locs : List Loc} {ls : Array Slot} {qx qm i : Nat} {x3 : Int32} (hi : i + 6 ≤ L) (ex3 : x3 = nI i) (hW : sd_RW s (sd_rp M) ws) (hP : va_P D vwCl ws H) (hD : va_D (sd_LA s) ws) (hS : va_S (sd_LA s) s.heap H locs) (hqx : (ws.map (fun q => q.1))[0]? = some qx) (hqm : (ws.map (fun q => q.1))[331]? = some qm) (hl : lv_has ls 4 [(0, .ref b), (1, .ref qx), (2, .ref qm), (3, .int x3)])
    (kk : ∀ (M2 : sd_M) (ws2 : va_W) (H1 : Heap) (locs1 : List Loc), Inv M2 → sd_RW s (sd_rp M2) ws2 → va_P D vwCl ws2 H1 → va_D (sd_LA s) ws2 → va_S (sd_LA s) s.heap H1 locs1 → (ws2.map (fun q => q.1))[0]? = some qx → (ws2.map (fun q => q.1))[331]? = some qm → W p l e room_1 s m #[Value.ref b] below meth c H1 locs1 357 15544 Q (F0 m 1187 ls [])) : W p l e room_1 s m #[Value.ref b] below meth c H locs 357 15544 Q (F0 m 512 ls []) := by
  obtain ⟨hx, hb, hr, hml, hown, hts, hXs, hbl, hlocks, hgv⟩ := id C0
  have hbA : ¬ sd_LA s b := Nat.not_le.mpr hbl
  obtain ⟨r, M1, M2, e1, e2, hI⟩ := hs M hM _ _ (sd_rgi (xs (x3 + 1).toNatClampNeg)) (sd_rgi (xs (x3 + 2).toNatClampNeg))
  refine lv_aload_n hx hb dl_512 rfl (lv_at hl 1 rfl) ?_
  refine lv_aload_n hx hb dl_513 rfl (lv_at hl 0 rfl) ?_
  refine lv_iload_n hx hb dl_514 rfl (lv_at hl 3 rfl) ?_
  refine lv_iconst (v := 1) hx hb dl_515 (by decide) ?_
  refine lv_iadd hx hb dl_516 ?_
  refine va_sld hx hb hXs hbl hbA hS (sd_lin ex3 hi hL 1 (by decide)) dl_517 ?_
  refine lv_aload_n hx hb dl_518 rfl (lv_at hl 0 rfl) ?_
  refine lv_iload_n hx hb dl_519 rfl (lv_at hl 3 rfl) ?_
  refine lv_iconst (v := 2) hx hb dl_520 (by decide) ?_
  refine lv_iadd hx hb dl_521 ?_
  refine va_sld hx hb hXs hbl hbA hS (sd_lin ex3 hi hL 2 (by decide)) dl_522 ?_
  refine sd_lcall (M := M) (M2 := M1) (r := r) (a := 0) C0 hX hK hN hSS [xs (x3 + 1).toNatClampNeg, xs (x3 + 2).toNatClampNeg] sd_i_X9_write (List.mem_of_getElem? (i := 842) rfl) (List.mem_of_getElem? (i := 843) rfl) (List.mem_of_getElem? (i := 844) rfl) (List.mem_of_getElem? (i := 116) rfl) rfl sd_o_0 (m_X9_write (by omega) e1) hW hP hD hS hqx hl.1 (Nat.le_of_ble_eq_true rfl) dl_523 ⟨Nat.le_of_ble_eq_true rfl, Nat.le_of_ble_eq_true rfl⟩ rfl (fun rv ws1 H1 locs1 hrv hW1 hP1 hD1 hS1 hex1 => ?_)
  refine lv_aload_n hx hb dl_526 rfl (lv_at hl 2 rfl) ?_
  refine lv_aload_n hx hb dl_527 rfl (lv_at hl 0 rfl) ?_
  refine lv_iload_n hx hb dl_528 rfl (lv_at hl 3 rfl) ?_
  refine lv_iconst (v := 1) hx hb dl_529 (by decide) ?_
  refine lv_iadd hx hb dl_530 ?_
  refine va_sld hx hb hXs hbl hbA hS1 (sd_lin ex3 hi hL 1 (by decide)) dl_531 ?_
  refine lv_aload_n hx hb dl_532 rfl (lv_at hl 0 rfl) ?_
  refine lv_iload_n hx hb dl_533 rfl (lv_at hl 3 rfl) ?_
  refine lv_iconst (v := 2) hx hb dl_534 (by decide) ?_
  refine lv_iadd hx hb dl_535 ?_
  refine va_sld hx hb hXs hbl hbA hS1 (sd_lin ex3 hi hL 2 (by decide)) dl_536 ?_
  refine sd_lcall (M := M1) (M2 := M2) (r := r) (a := 331) C0 hX hK hN hSS [xs (x3 + 1).toNatClampNeg, xs (x3 + 2).toNatClampNeg] sd_i_X10_write (List.mem_of_getElem? (i := 1484) rfl) (List.mem_of_getElem? (i := 1485) rfl) (List.mem_of_getElem? (i := 1486) rfl) (List.mem_of_getElem? (i := 126) rfl) rfl sd_o_331 (m_X10_write (by omega) e2) hW1 hP1 hD1 hS1 (sd_ext_get hex1 hqm) hl.1 (Nat.le_of_ble_eq_true rfl) dl_537 ⟨Nat.le_of_ble_eq_true rfl, Nat.le_of_ble_eq_true rfl⟩ rfl (fun rv2 ws2 H2 locs2 hrv2 hW2 hP2 hD2 hS2 hex2 => ?_)
  refine lv_icmp_eq (tgt := 1187) hx hb dl_540 (by decide) (fun c1 => ?_) (fun c1 => absurd (Int32.toInt_inj.mp (hrv.trans hrv2.symm)) c1)
  exact kk M2 ws2 H2 locs2 hI hW2 hP2 hD2 hS2 (sd_ext_get hex2 (sd_ext_get hex1 hqx)) (sd_ext_get hex2 (sd_ext_get hex1 hqm))
set_option maxRecDepth 10000 in
theorem lc_claim {p : Program} {l : Launch} {e : Env} {s : State} {m : MethodId} {below : List Frame} {meth : Method} {c : Code} {b L : Nat} {xs : Nat → Int32} {D : va_G} {Q : State → Prop} (hL : L ≤ 3072) (C0 : lw_At p s m meth c b L xs) (hX : ∀ d j As E Ra, sd_X j As E Ra → sd_Snd l d j As E Ra) (hK : va_K D vwCl [] s) (hN : sd_NW s) (hSS : sd_SS (sd_LA s) s s.heap) {Inv : sd_M → Prop} (hs : sd_S1 Inv f_X9_claim f_X10_claim) {M : sd_M} (hM : Inv M) {ws : va_W} {H : Heap} {locs : List Loc} {ls : Array Slot} {qx qm i : Nat} {x3 : Int32} (hi : i + 6 ≤ L) (ex3 : x3 = nI i) (hW : sd_RW s (sd_rp M) ws) (hP : va_P D vwCl ws H) (hD : va_D (sd_LA s) ws) (hS : va_S (sd_LA s) s.heap H locs) (hqx : (ws.map (fun q => q.1))[0]? = some qx) (hqm : (ws.map (fun q => q.1))[331]? = some qm) (hl : lv_has ls 4 [(0, .ref b), (1, .ref qx), (2, .ref qm), (3, .int x3)])
    (kk : ∀ (M2 : sd_M) (ws2 : va_W) (H1 : Heap) (locs1 : List Loc), Inv M2 → sd_RW s (sd_rp M2) ws2 → va_P D vwCl ws2 H1 → va_D (sd_LA s) ws2 → va_S (sd_LA s) s.heap H1 locs1 → (ws2.map (fun q => q.1))[0]? = some qx → (ws2.map (fun q => q.1))[331]? = some qm → W p l e room_1 s m #[Value.ref b] below meth c H1 locs1 357 15544 Q (F0 m 1187 ls [])) : W p l e room_1 s m #[Value.ref b] below meth c H locs 357 15544 Q (F0 m 545 ls []) := by
  obtain ⟨hx, hb, hr, hml, hown, hts, hXs, hbl, hlocks, hgv⟩ := id C0
  have hbA : ¬ sd_LA s b := Nat.not_le.mpr hbl
  obtain ⟨r, M1, M2, e1, e2, hI⟩ := hs M hM _ (sd_rgi (xs (x3 + 1).toNatClampNeg))
  refine lv_aload_n hx hb dl_545 rfl (lv_at hl 1 rfl) ?_
  refine lv_aload_n hx hb dl_546 rfl (lv_at hl 0 rfl) ?_
  refine lv_iload_n hx hb dl_547 rfl (lv_at hl 3 rfl) ?_
  refine lv_iconst (v := 1) hx hb dl_548 (by decide) ?_
  refine lv_iadd hx hb dl_549 ?_
  refine va_sld hx hb hXs hbl hbA hS (sd_lin ex3 hi hL 1 (by decide)) dl_550 ?_
  refine sd_lcall (M := M) (M2 := M1) (r := r) (a := 0) C0 hX hK hN hSS [xs (x3 + 1).toNatClampNeg] sd_i_X9_claim (List.mem_of_getElem? (i := 850) rfl) (List.mem_of_getElem? (i := 851) rfl) (List.mem_of_getElem? (i := 852) rfl) (List.mem_of_getElem? (i := 116) rfl) rfl sd_o_0 (m_X9_claim (by omega) e1) hW hP hD hS hqx hl.1 (Nat.le_of_ble_eq_true rfl) dl_551 ⟨Nat.le_of_ble_eq_true rfl, Nat.le_of_ble_eq_true rfl⟩ rfl (fun rv ws1 H1 locs1 hrv hW1 hP1 hD1 hS1 hex1 => ?_)
  refine lv_aload_n hx hb dl_554 rfl (lv_at hl 2 rfl) ?_
  refine lv_aload_n hx hb dl_555 rfl (lv_at hl 0 rfl) ?_
  refine lv_iload_n hx hb dl_556 rfl (lv_at hl 3 rfl) ?_
  refine lv_iconst (v := 1) hx hb dl_557 (by decide) ?_
  refine lv_iadd hx hb dl_558 ?_
  refine va_sld hx hb hXs hbl hbA hS1 (sd_lin ex3 hi hL 1 (by decide)) dl_559 ?_
  refine sd_lcall (M := M1) (M2 := M2) (r := r) (a := 331) C0 hX hK hN hSS [xs (x3 + 1).toNatClampNeg] sd_i_X10_claim (List.mem_of_getElem? (i := 1488) rfl) (List.mem_of_getElem? (i := 1489) rfl) (List.mem_of_getElem? (i := 1490) rfl) (List.mem_of_getElem? (i := 126) rfl) rfl sd_o_331 (m_X10_claim (by omega) e2) hW1 hP1 hD1 hS1 (sd_ext_get hex1 hqm) hl.1 (Nat.le_of_ble_eq_true rfl) dl_560 ⟨Nat.le_of_ble_eq_true rfl, Nat.le_of_ble_eq_true rfl⟩ rfl (fun rv2 ws2 H2 locs2 hrv2 hW2 hP2 hD2 hS2 hex2 => ?_)
  refine lv_icmp_eq (tgt := 1187) hx hb dl_563 (by decide) (fun c1 => ?_) (fun c1 => absurd (Int32.toInt_inj.mp (hrv.trans hrv2.symm)) c1)
  exact kk M2 ws2 H2 locs2 hI hW2 hP2 hD2 hS2 (sd_ext_get hex2 (sd_ext_get hex1 hqx)) (sd_ext_get hex2 (sd_ext_get hex1 hqm))
set_option maxRecDepth 10000 in
theorem lc_undo {p : Program} {l : Launch} {e : Env} {s : State} {m : MethodId} {below : List Frame} {meth : Method} {c : Code} {b L : Nat} {xs : Nat → Int32} {D : va_G} {Q : State → Prop} (hL : L ≤ 3072) (C0 : lw_At p s m meth c b L xs) (hX : ∀ d j As E Ra, sd_X j As E Ra → sd_Snd l d j As E Ra) (hK : va_K D vwCl [] s) (hN : sd_NW s) (hSS : sd_SS (sd_LA s) s s.heap) {Inv : sd_M → Prop} (hs : sd_S0 Inv f_X9_undo f_X10_undo) {M : sd_M} (hM : Inv M) {ws : va_W} {H : Heap} {locs : List Loc} {ls : Array Slot} {qx qm i : Nat} {x3 : Int32} (hi : i + 6 ≤ L) (ex3 : x3 = nI i) (hW : sd_RW s (sd_rp M) ws) (hP : va_P D vwCl ws H) (hD : va_D (sd_LA s) ws) (hS : va_S (sd_LA s) s.heap H locs) (hqx : (ws.map (fun q => q.1))[0]? = some qx) (hqm : (ws.map (fun q => q.1))[331]? = some qm) (hl : lv_has ls 4 [(0, .ref b), (1, .ref qx), (2, .ref qm), (3, .int x3)])
    (kk : ∀ (M2 : sd_M) (ws2 : va_W) (H1 : Heap) (locs1 : List Loc), Inv M2 → sd_RW s (sd_rp M2) ws2 → va_P D vwCl ws2 H1 → va_D (sd_LA s) ws2 → va_S (sd_LA s) s.heap H1 locs1 → (ws2.map (fun q => q.1))[0]? = some qx → (ws2.map (fun q => q.1))[331]? = some qm → W p l e room_1 s m #[Value.ref b] below meth c H1 locs1 357 15544 Q (F0 m 1187 ls [])) : W p l e room_1 s m #[Value.ref b] below meth c H locs 357 15544 Q (F0 m 568 ls []) := by
  obtain ⟨hx, hb, hr, hml, hown, hts, hXs, hbl, hlocks, hgv⟩ := id C0
  have hbA : ¬ sd_LA s b := Nat.not_le.mpr hbl
  obtain ⟨r, M1, M2, e1, e2, hI⟩ := hs M hM
  refine lv_aload_n hx hb dl_568 rfl (lv_at hl 1 rfl) ?_
  refine sd_lcall (M := M) (M2 := M1) (r := r) (a := 0) C0 hX hK hN hSS [] sd_i_X9_undo (List.mem_of_getElem? (i := 859) rfl) (List.mem_of_getElem? (i := 860) rfl) (List.mem_of_getElem? (i := 861) rfl) (List.mem_of_getElem? (i := 116) rfl) rfl sd_o_0 (m_X9_undo (by omega) e1) hW hP hD hS hqx hl.1 (Nat.le_of_ble_eq_true rfl) dl_569 ⟨Nat.le_of_ble_eq_true rfl, Nat.le_of_ble_eq_true rfl⟩ rfl (fun rv ws1 H1 locs1 hrv hW1 hP1 hD1 hS1 hex1 => ?_)
  refine lv_aload_n hx hb dl_572 rfl (lv_at hl 2 rfl) ?_
  refine sd_lcall (M := M1) (M2 := M2) (r := r) (a := 331) C0 hX hK hN hSS [] sd_i_X10_undo (List.mem_of_getElem? (i := 1397) rfl) (List.mem_of_getElem? (i := 1398) rfl) (List.mem_of_getElem? (i := 1399) rfl) (List.mem_of_getElem? (i := 126) rfl) rfl sd_o_331 (m_X10_undo (by omega) e2) hW1 hP1 hD1 hS1 (sd_ext_get hex1 hqm) hl.1 (Nat.le_of_ble_eq_true rfl) dl_573 ⟨Nat.le_of_ble_eq_true rfl, Nat.le_of_ble_eq_true rfl⟩ rfl (fun rv2 ws2 H2 locs2 hrv2 hW2 hP2 hD2 hS2 hex2 => ?_)
  refine lv_icmp_eq (tgt := 1187) hx hb dl_576 (by decide) (fun c1 => ?_) (fun c1 => absurd (Int32.toInt_inj.mp (hrv.trans hrv2.symm)) c1)
  exact kk M2 ws2 H2 locs2 hI hW2 hP2 hD2 hS2 (sd_ext_get hex2 (sd_ext_get hex1 hqx)) (sd_ext_get hex2 (sd_ext_get hex1 hqm))
set_option maxRecDepth 10000 in
theorem lc_would {p : Program} {l : Launch} {e : Env} {s : State} {m : MethodId} {below : List Frame} {meth : Method} {c : Code} {b L : Nat} {xs : Nat → Int32} {D : va_G} {Q : State → Prop} (hL : L ≤ 3072) (C0 : lw_At p s m meth c b L xs) (hX : ∀ d j As E Ra, sd_X j As E Ra → sd_Snd l d j As E Ra) (hK : va_K D vwCl [] s) (hN : sd_NW s) (hSS : sd_SS (sd_LA s) s s.heap) {Inv : sd_M → Prop} (hs : sd_S2 Inv f_X9_would f_X10_would) {M : sd_M} (hM : Inv M) {ws : va_W} {H : Heap} {locs : List Loc} {ls : Array Slot} {qx qm i : Nat} {x3 : Int32} (hi : i + 6 ≤ L) (ex3 : x3 = nI i) (hW : sd_RW s (sd_rp M) ws) (hP : va_P D vwCl ws H) (hD : va_D (sd_LA s) ws) (hS : va_S (sd_LA s) s.heap H locs) (hqx : (ws.map (fun q => q.1))[0]? = some qx) (hqm : (ws.map (fun q => q.1))[331]? = some qm) (hl : lv_has ls 4 [(0, .ref b), (1, .ref qx), (2, .ref qm), (3, .int x3)])
    (kk : ∀ (M2 : sd_M) (ws2 : va_W) (H1 : Heap) (locs1 : List Loc), Inv M2 → sd_RW s (sd_rp M2) ws2 → va_P D vwCl ws2 H1 → va_D (sd_LA s) ws2 → va_S (sd_LA s) s.heap H1 locs1 → (ws2.map (fun q => q.1))[0]? = some qx → (ws2.map (fun q => q.1))[331]? = some qm → W p l e room_1 s m #[Value.ref b] below meth c H1 locs1 357 15544 Q (F0 m 1187 ls [])) : W p l e room_1 s m #[Value.ref b] below meth c H locs 357 15544 Q (F0 m 581 ls []) := by
  obtain ⟨hx, hb, hr, hml, hown, hts, hXs, hbl, hlocks, hgv⟩ := id C0
  have hbA : ¬ sd_LA s b := Nat.not_le.mpr hbl
  obtain ⟨r, M1, M2, e1, e2, hI⟩ := hs M hM _ _ (sd_rgi (xs (x3 + 1).toNatClampNeg)) (sd_rgi (xs (x3 + 2).toNatClampNeg))
  refine lv_aload_n hx hb dl_581 rfl (lv_at hl 1 rfl) ?_
  refine lv_aload_n hx hb dl_582 rfl (lv_at hl 0 rfl) ?_
  refine lv_iload_n hx hb dl_583 rfl (lv_at hl 3 rfl) ?_
  refine lv_iconst (v := 1) hx hb dl_584 (by decide) ?_
  refine lv_iadd hx hb dl_585 ?_
  refine va_sld hx hb hXs hbl hbA hS (sd_lin ex3 hi hL 1 (by decide)) dl_586 ?_
  refine lv_aload_n hx hb dl_587 rfl (lv_at hl 0 rfl) ?_
  refine lv_iload_n hx hb dl_588 rfl (lv_at hl 3 rfl) ?_
  refine lv_iconst (v := 2) hx hb dl_589 (by decide) ?_
  refine lv_iadd hx hb dl_590 ?_
  refine va_sld hx hb hXs hbl hbA hS (sd_lin ex3 hi hL 2 (by decide)) dl_591 ?_
  refine sd_lcall (M := M) (M2 := M1) (r := r) (a := 0) C0 hX hK hN hSS [xs (x3 + 1).toNatClampNeg, xs (x3 + 2).toNatClampNeg] sd_i_X9_would (List.mem_of_getElem? (i := 863) rfl) (List.mem_of_getElem? (i := 864) rfl) (List.mem_of_getElem? (i := 865) rfl) (List.mem_of_getElem? (i := 116) rfl) rfl sd_o_0 (m_X9_would (by omega) e1) hW hP hD hS hqx hl.1 (Nat.le_of_ble_eq_true rfl) dl_592 ⟨Nat.le_of_ble_eq_true rfl, Nat.le_of_ble_eq_true rfl⟩ rfl (fun rv ws1 H1 locs1 hrv hW1 hP1 hD1 hS1 hex1 => ?_)
  refine lv_aload_n hx hb dl_595 rfl (lv_at hl 2 rfl) ?_
  refine lv_aload_n hx hb dl_596 rfl (lv_at hl 0 rfl) ?_
  refine lv_iload_n hx hb dl_597 rfl (lv_at hl 3 rfl) ?_
  refine lv_iconst (v := 1) hx hb dl_598 (by decide) ?_
  refine lv_iadd hx hb dl_599 ?_
  refine va_sld hx hb hXs hbl hbA hS1 (sd_lin ex3 hi hL 1 (by decide)) dl_600 ?_
  refine lv_aload_n hx hb dl_601 rfl (lv_at hl 0 rfl) ?_
  refine lv_iload_n hx hb dl_602 rfl (lv_at hl 3 rfl) ?_
  refine lv_iconst (v := 2) hx hb dl_603 (by decide) ?_
  refine lv_iadd hx hb dl_604 ?_
  refine va_sld hx hb hXs hbl hbA hS1 (sd_lin ex3 hi hL 2 (by decide)) dl_605 ?_
  refine sd_lcall (M := M1) (M2 := M2) (r := r) (a := 331) C0 hX hK hN hSS [xs (x3 + 1).toNatClampNeg, xs (x3 + 2).toNatClampNeg] sd_i_X10_would (List.mem_of_getElem? (i := 1497) rfl) (List.mem_of_getElem? (i := 1498) rfl) (List.mem_of_getElem? (i := 1499) rfl) (List.mem_of_getElem? (i := 126) rfl) rfl sd_o_331 (m_X10_would (by omega) e2) hW1 hP1 hD1 hS1 (sd_ext_get hex1 hqm) hl.1 (Nat.le_of_ble_eq_true rfl) dl_606 ⟨Nat.le_of_ble_eq_true rfl, Nat.le_of_ble_eq_true rfl⟩ rfl (fun rv2 ws2 H2 locs2 hrv2 hW2 hP2 hD2 hS2 hex2 => ?_)
  refine lv_icmp_eq (tgt := 1187) hx hb dl_609 (by decide) (fun c1 => ?_) (fun c1 => absurd (Int32.toInt_inj.mp (hrv.trans hrv2.symm)) c1)
  exact kk M2 ws2 H2 locs2 hI hW2 hP2 hD2 hS2 (sd_ext_get hex2 (sd_ext_get hex1 hqx)) (sd_ext_get hex2 (sd_ext_get hex1 hqm))
set_option maxRecDepth 10000 in
theorem lc_least {p : Program} {l : Launch} {e : Env} {s : State} {m : MethodId} {below : List Frame} {meth : Method} {c : Code} {b L : Nat} {xs : Nat → Int32} {D : va_G} {Q : State → Prop} (hL : L ≤ 3072) (C0 : lw_At p s m meth c b L xs) (hX : ∀ d j As E Ra, sd_X j As E Ra → sd_Snd l d j As E Ra) (hK : va_K D vwCl [] s) (hN : sd_NW s) (hSS : sd_SS (sd_LA s) s s.heap) {Inv : sd_M → Prop} (hs : sd_S2 Inv f_X9_least f_X10_least) {M : sd_M} (hM : Inv M) {ws : va_W} {H : Heap} {locs : List Loc} {ls : Array Slot} {qx qm i : Nat} {x3 : Int32} (hi : i + 6 ≤ L) (ex3 : x3 = nI i) (hW : sd_RW s (sd_rp M) ws) (hP : va_P D vwCl ws H) (hD : va_D (sd_LA s) ws) (hS : va_S (sd_LA s) s.heap H locs) (hqx : (ws.map (fun q => q.1))[0]? = some qx) (hqm : (ws.map (fun q => q.1))[331]? = some qm) (hl : lv_has ls 4 [(0, .ref b), (1, .ref qx), (2, .ref qm), (3, .int x3)])
    (kk : ∀ (M2 : sd_M) (ws2 : va_W) (H1 : Heap) (locs1 : List Loc), Inv M2 → sd_RW s (sd_rp M2) ws2 → va_P D vwCl ws2 H1 → va_D (sd_LA s) ws2 → va_S (sd_LA s) s.heap H1 locs1 → (ws2.map (fun q => q.1))[0]? = some qx → (ws2.map (fun q => q.1))[331]? = some qm → W p l e room_1 s m #[Value.ref b] below meth c H1 locs1 357 15544 Q (F0 m 1187 ls [])) : W p l e room_1 s m #[Value.ref b] below meth c H locs 357 15544 Q (F0 m 614 ls []) := by
  obtain ⟨hx, hb, hr, hml, hown, hts, hXs, hbl, hlocks, hgv⟩ := id C0
  have hbA : ¬ sd_LA s b := Nat.not_le.mpr hbl
  obtain ⟨r, M1, M2, e1, e2, hI⟩ := hs M hM _ _ (sd_rgi (xs (x3 + 1).toNatClampNeg)) (sd_rgi (xs (x3 + 2).toNatClampNeg))
  refine lv_aload_n hx hb dl_614 rfl (lv_at hl 1 rfl) ?_
  refine lv_aload_n hx hb dl_615 rfl (lv_at hl 0 rfl) ?_
  refine lv_iload_n hx hb dl_616 rfl (lv_at hl 3 rfl) ?_
  refine lv_iconst (v := 1) hx hb dl_617 (by decide) ?_
  refine lv_iadd hx hb dl_618 ?_
  refine va_sld hx hb hXs hbl hbA hS (sd_lin ex3 hi hL 1 (by decide)) dl_619 ?_
  refine lv_aload_n hx hb dl_620 rfl (lv_at hl 0 rfl) ?_
  refine lv_iload_n hx hb dl_621 rfl (lv_at hl 3 rfl) ?_
  refine lv_iconst (v := 2) hx hb dl_622 (by decide) ?_
  refine lv_iadd hx hb dl_623 ?_
  refine va_sld hx hb hXs hbl hbA hS (sd_lin ex3 hi hL 2 (by decide)) dl_624 ?_
  refine sd_lcall (M := M) (M2 := M1) (r := r) (a := 0) C0 hX hK hN hSS [xs (x3 + 1).toNatClampNeg, xs (x3 + 2).toNatClampNeg] sd_i_X9_least (List.mem_of_getElem? (i := 871) rfl) (List.mem_of_getElem? (i := 872) rfl) (List.mem_of_getElem? (i := 873) rfl) (List.mem_of_getElem? (i := 116) rfl) rfl sd_o_0 (m_X9_least (by omega) e1) hW hP hD hS hqx hl.1 (Nat.le_of_ble_eq_true rfl) dl_625 ⟨Nat.le_of_ble_eq_true rfl, Nat.le_of_ble_eq_true rfl⟩ rfl (fun rv ws1 H1 locs1 hrv hW1 hP1 hD1 hS1 hex1 => ?_)
  refine lv_aload_n hx hb dl_628 rfl (lv_at hl 2 rfl) ?_
  refine lv_aload_n hx hb dl_629 rfl (lv_at hl 0 rfl) ?_
  refine lv_iload_n hx hb dl_630 rfl (lv_at hl 3 rfl) ?_
  refine lv_iconst (v := 1) hx hb dl_631 (by decide) ?_
  refine lv_iadd hx hb dl_632 ?_
  refine va_sld hx hb hXs hbl hbA hS1 (sd_lin ex3 hi hL 1 (by decide)) dl_633 ?_
  refine lv_aload_n hx hb dl_634 rfl (lv_at hl 0 rfl) ?_
  refine lv_iload_n hx hb dl_635 rfl (lv_at hl 3 rfl) ?_
  refine lv_iconst (v := 2) hx hb dl_636 (by decide) ?_
  refine lv_iadd hx hb dl_637 ?_
  refine va_sld hx hb hXs hbl hbA hS1 (sd_lin ex3 hi hL 2 (by decide)) dl_638 ?_
  refine sd_lcall (M := M1) (M2 := M2) (r := r) (a := 331) C0 hX hK hN hSS [xs (x3 + 1).toNatClampNeg, xs (x3 + 2).toNatClampNeg] sd_i_X10_least (List.mem_of_getElem? (i := 1513) rfl) (List.mem_of_getElem? (i := 1514) rfl) (List.mem_of_getElem? (i := 1515) rfl) (List.mem_of_getElem? (i := 126) rfl) rfl sd_o_331 (m_X10_least (by omega) e2) hW1 hP1 hD1 hS1 (sd_ext_get hex1 hqm) hl.1 (Nat.le_of_ble_eq_true rfl) dl_639 ⟨Nat.le_of_ble_eq_true rfl, Nat.le_of_ble_eq_true rfl⟩ rfl (fun rv2 ws2 H2 locs2 hrv2 hW2 hP2 hD2 hS2 hex2 => ?_)
  refine lv_icmp_eq (tgt := 1187) hx hb dl_642 (by decide) (fun c1 => ?_) (fun c1 => absurd (Int32.toInt_inj.mp (hrv.trans hrv2.symm)) c1)
  exact kk M2 ws2 H2 locs2 hI hW2 hP2 hD2 hS2 (sd_ext_get hex2 (sd_ext_get hex1 hqx)) (sd_ext_get hex2 (sd_ext_get hex1 hqm))
set_option maxRecDepth 10000 in
theorem lc_worst {p : Program} {l : Launch} {e : Env} {s : State} {m : MethodId} {below : List Frame} {meth : Method} {c : Code} {b L : Nat} {xs : Nat → Int32} {D : va_G} {Q : State → Prop} (hL : L ≤ 3072) (C0 : lw_At p s m meth c b L xs) (hX : ∀ d j As E Ra, sd_X j As E Ra → sd_Snd l d j As E Ra) (hK : va_K D vwCl [] s) (hN : sd_NW s) (hSS : sd_SS (sd_LA s) s s.heap) {Inv : sd_M → Prop} (hs : sd_S1 Inv f_X9_worst f_X10_worst) {M : sd_M} (hM : Inv M) {ws : va_W} {H : Heap} {locs : List Loc} {ls : Array Slot} {qx qm i : Nat} {x3 : Int32} (hi : i + 6 ≤ L) (ex3 : x3 = nI i) (hW : sd_RW s (sd_rp M) ws) (hP : va_P D vwCl ws H) (hD : va_D (sd_LA s) ws) (hS : va_S (sd_LA s) s.heap H locs) (hqx : (ws.map (fun q => q.1))[0]? = some qx) (hqm : (ws.map (fun q => q.1))[331]? = some qm) (hl : lv_has ls 4 [(0, .ref b), (1, .ref qx), (2, .ref qm), (3, .int x3)])
    (kk : ∀ (M2 : sd_M) (ws2 : va_W) (H1 : Heap) (locs1 : List Loc), Inv M2 → sd_RW s (sd_rp M2) ws2 → va_P D vwCl ws2 H1 → va_D (sd_LA s) ws2 → va_S (sd_LA s) s.heap H1 locs1 → (ws2.map (fun q => q.1))[0]? = some qx → (ws2.map (fun q => q.1))[331]? = some qm → W p l e room_1 s m #[Value.ref b] below meth c H1 locs1 357 15544 Q (F0 m 1187 ls [])) : W p l e room_1 s m #[Value.ref b] below meth c H locs 357 15544 Q (F0 m 647 ls []) := by
  obtain ⟨hx, hb, hr, hml, hown, hts, hXs, hbl, hlocks, hgv⟩ := id C0
  have hbA : ¬ sd_LA s b := Nat.not_le.mpr hbl
  obtain ⟨r, M1, M2, e1, e2, hI⟩ := hs M hM _ (sd_rgi (xs (x3 + 1).toNatClampNeg))
  refine lv_aload_n hx hb dl_647 rfl (lv_at hl 1 rfl) ?_
  refine lv_aload_n hx hb dl_648 rfl (lv_at hl 0 rfl) ?_
  refine lv_iload_n hx hb dl_649 rfl (lv_at hl 3 rfl) ?_
  refine lv_iconst (v := 1) hx hb dl_650 (by decide) ?_
  refine lv_iadd hx hb dl_651 ?_
  refine va_sld hx hb hXs hbl hbA hS (sd_lin ex3 hi hL 1 (by decide)) dl_652 ?_
  refine sd_lcall (M := M) (M2 := M1) (r := r) (a := 0) C0 hX hK hN hSS [xs (x3 + 1).toNatClampNeg] sd_i_X9_worst (List.mem_of_getElem? (i := 875) rfl) (List.mem_of_getElem? (i := 876) rfl) (List.mem_of_getElem? (i := 877) rfl) (List.mem_of_getElem? (i := 116) rfl) rfl sd_o_0 (m_X9_worst (by omega) e1) hW hP hD hS hqx hl.1 (Nat.le_of_ble_eq_true rfl) dl_653 ⟨Nat.le_of_ble_eq_true rfl, Nat.le_of_ble_eq_true rfl⟩ rfl (fun rv ws1 H1 locs1 hrv hW1 hP1 hD1 hS1 hex1 => ?_)
  refine lv_aload_n hx hb dl_656 rfl (lv_at hl 2 rfl) ?_
  refine lv_aload_n hx hb dl_657 rfl (lv_at hl 0 rfl) ?_
  refine lv_iload_n hx hb dl_658 rfl (lv_at hl 3 rfl) ?_
  refine lv_iconst (v := 1) hx hb dl_659 (by decide) ?_
  refine lv_iadd hx hb dl_660 ?_
  refine va_sld hx hb hXs hbl hbA hS1 (sd_lin ex3 hi hL 1 (by decide)) dl_661 ?_
  refine sd_lcall (M := M1) (M2 := M2) (r := r) (a := 331) C0 hX hK hN hSS [xs (x3 + 1).toNatClampNeg] sd_i_X10_worst (List.mem_of_getElem? (i := 1517) rfl) (List.mem_of_getElem? (i := 1518) rfl) (List.mem_of_getElem? (i := 1519) rfl) (List.mem_of_getElem? (i := 126) rfl) rfl sd_o_331 (m_X10_worst (by omega) e2) hW1 hP1 hD1 hS1 (sd_ext_get hex1 hqm) hl.1 (Nat.le_of_ble_eq_true rfl) dl_662 ⟨Nat.le_of_ble_eq_true rfl, Nat.le_of_ble_eq_true rfl⟩ rfl (fun rv2 ws2 H2 locs2 hrv2 hW2 hP2 hD2 hS2 hex2 => ?_)
  refine lv_icmp_eq (tgt := 1187) hx hb dl_665 (by decide) (fun c1 => ?_) (fun c1 => absurd (Int32.toInt_inj.mp (hrv.trans hrv2.symm)) c1)
  exact kk M2 ws2 H2 locs2 hI hW2 hP2 hD2 hS2 (sd_ext_get hex2 (sd_ext_get hex1 hqx)) (sd_ext_get hex2 (sd_ext_get hex1 hqm))
set_option maxRecDepth 10000 in
theorem lc_firm {p : Program} {l : Launch} {e : Env} {s : State} {m : MethodId} {below : List Frame} {meth : Method} {c : Code} {b L : Nat} {xs : Nat → Int32} {D : va_G} {Q : State → Prop} (hL : L ≤ 3072) (C0 : lw_At p s m meth c b L xs) (hX : ∀ d j As E Ra, sd_X j As E Ra → sd_Snd l d j As E Ra) (hK : va_K D vwCl [] s) (hN : sd_NW s) (hSS : sd_SS (sd_LA s) s s.heap) {Inv : sd_M → Prop} (hs : sd_S0 Inv f_X9_firm f_X10_firm) {M : sd_M} (hM : Inv M) {ws : va_W} {H : Heap} {locs : List Loc} {ls : Array Slot} {qx qm i : Nat} {x3 : Int32} (hi : i + 6 ≤ L) (ex3 : x3 = nI i) (hW : sd_RW s (sd_rp M) ws) (hP : va_P D vwCl ws H) (hD : va_D (sd_LA s) ws) (hS : va_S (sd_LA s) s.heap H locs) (hqx : (ws.map (fun q => q.1))[0]? = some qx) (hqm : (ws.map (fun q => q.1))[331]? = some qm) (hl : lv_has ls 4 [(0, .ref b), (1, .ref qx), (2, .ref qm), (3, .int x3)])
    (kk : ∀ (M2 : sd_M) (ws2 : va_W) (H1 : Heap) (locs1 : List Loc), Inv M2 → sd_RW s (sd_rp M2) ws2 → va_P D vwCl ws2 H1 → va_D (sd_LA s) ws2 → va_S (sd_LA s) s.heap H1 locs1 → (ws2.map (fun q => q.1))[0]? = some qx → (ws2.map (fun q => q.1))[331]? = some qm → W p l e room_1 s m #[Value.ref b] below meth c H1 locs1 357 15544 Q (F0 m 1187 ls [])) : W p l e room_1 s m #[Value.ref b] below meth c H locs 357 15544 Q (F0 m 670 ls []) := by
  obtain ⟨hx, hb, hr, hml, hown, hts, hXs, hbl, hlocks, hgv⟩ := id C0
  have hbA : ¬ sd_LA s b := Nat.not_le.mpr hbl
  obtain ⟨r, M1, M2, e1, e2, hI⟩ := hs M hM
  refine lv_aload_n hx hb dl_670 rfl (lv_at hl 1 rfl) ?_
  refine sd_lcall (M := M) (M2 := M1) (r := r) (a := 0) C0 hX hK hN hSS [] sd_i_X9_firm (List.mem_of_getElem? (i := 883) rfl) (List.mem_of_getElem? (i := 884) rfl) (List.mem_of_getElem? (i := 885) rfl) (List.mem_of_getElem? (i := 116) rfl) rfl sd_o_0 (m_X9_firm (by omega) e1) hW hP hD hS hqx hl.1 (Nat.le_of_ble_eq_true rfl) dl_671 ⟨Nat.le_of_ble_eq_true rfl, Nat.le_of_ble_eq_true rfl⟩ rfl (fun rv ws1 H1 locs1 hrv hW1 hP1 hD1 hS1 hex1 => ?_)
  refine lv_aload_n hx hb dl_674 rfl (lv_at hl 2 rfl) ?_
  refine sd_lcall (M := M1) (M2 := M2) (r := r) (a := 331) C0 hX hK hN hSS [] sd_i_X10_firm (List.mem_of_getElem? (i := 1521) rfl) (List.mem_of_getElem? (i := 1522) rfl) (List.mem_of_getElem? (i := 1523) rfl) (List.mem_of_getElem? (i := 126) rfl) rfl sd_o_331 (m_X10_firm (by omega) e2) hW1 hP1 hD1 hS1 (sd_ext_get hex1 hqm) hl.1 (Nat.le_of_ble_eq_true rfl) dl_675 ⟨Nat.le_of_ble_eq_true rfl, Nat.le_of_ble_eq_true rfl⟩ rfl (fun rv2 ws2 H2 locs2 hrv2 hW2 hP2 hD2 hS2 hex2 => ?_)
  refine lv_icmp_eq (tgt := 1187) hx hb dl_678 (by decide) (fun c1 => ?_) (fun c1 => absurd (Int32.toInt_inj.mp (hrv.trans hrv2.symm)) c1)
  exact kk M2 ws2 H2 locs2 hI hW2 hP2 hD2 hS2 (sd_ext_get hex2 (sd_ext_get hex1 hqx)) (sd_ext_get hex2 (sd_ext_get hex1 hqm))
set_option maxRecDepth 10000 in
theorem lc_half {p : Program} {l : Launch} {e : Env} {s : State} {m : MethodId} {below : List Frame} {meth : Method} {c : Code} {b L : Nat} {xs : Nat → Int32} {D : va_G} {Q : State → Prop} (hL : L ≤ 3072) (C0 : lw_At p s m meth c b L xs) (hX : ∀ d j As E Ra, sd_X j As E Ra → sd_Snd l d j As E Ra) (hK : va_K D vwCl [] s) (hN : sd_NW s) (hSS : sd_SS (sd_LA s) s s.heap) {Inv : sd_M → Prop} (hs : sd_S1 Inv f_X9_half f_X10_half) {M : sd_M} (hM : Inv M) {ws : va_W} {H : Heap} {locs : List Loc} {ls : Array Slot} {qx qm i : Nat} {x3 : Int32} (hi : i + 6 ≤ L) (ex3 : x3 = nI i) (hW : sd_RW s (sd_rp M) ws) (hP : va_P D vwCl ws H) (hD : va_D (sd_LA s) ws) (hS : va_S (sd_LA s) s.heap H locs) (hqx : (ws.map (fun q => q.1))[0]? = some qx) (hqm : (ws.map (fun q => q.1))[331]? = some qm) (hl : lv_has ls 4 [(0, .ref b), (1, .ref qx), (2, .ref qm), (3, .int x3)])
    (kk : ∀ (M2 : sd_M) (ws2 : va_W) (H1 : Heap) (locs1 : List Loc), Inv M2 → sd_RW s (sd_rp M2) ws2 → va_P D vwCl ws2 H1 → va_D (sd_LA s) ws2 → va_S (sd_LA s) s.heap H1 locs1 → (ws2.map (fun q => q.1))[0]? = some qx → (ws2.map (fun q => q.1))[331]? = some qm → W p l e room_1 s m #[Value.ref b] below meth c H1 locs1 357 15544 Q (F0 m 1187 ls [])) : W p l e room_1 s m #[Value.ref b] below meth c H locs 357 15544 Q (F0 m 683 ls []) := by
  obtain ⟨hx, hb, hr, hml, hown, hts, hXs, hbl, hlocks, hgv⟩ := id C0
  have hbA : ¬ sd_LA s b := Nat.not_le.mpr hbl
  obtain ⟨r, M1, M2, e1, e2, hI⟩ := hs M hM _ (sd_rgi (xs (x3 + 1).toNatClampNeg))
  refine lv_aload_n hx hb dl_683 rfl (lv_at hl 1 rfl) ?_
  refine lv_aload_n hx hb dl_684 rfl (lv_at hl 0 rfl) ?_
  refine lv_iload_n hx hb dl_685 rfl (lv_at hl 3 rfl) ?_
  refine lv_iconst (v := 1) hx hb dl_686 (by decide) ?_
  refine lv_iadd hx hb dl_687 ?_
  refine va_sld hx hb hXs hbl hbA hS (sd_lin ex3 hi hL 1 (by decide)) dl_688 ?_
  refine sd_lcall (M := M) (M2 := M1) (r := r) (a := 0) C0 hX hK hN hSS [xs (x3 + 1).toNatClampNeg] sd_i_X9_half (List.mem_of_getElem? (i := 887) rfl) (List.mem_of_getElem? (i := 888) rfl) (List.mem_of_getElem? (i := 889) rfl) (List.mem_of_getElem? (i := 116) rfl) rfl sd_o_0 (m_X9_half (by omega) e1) hW hP hD hS hqx hl.1 (Nat.le_of_ble_eq_true rfl) dl_689 ⟨Nat.le_of_ble_eq_true rfl, Nat.le_of_ble_eq_true rfl⟩ rfl (fun rv ws1 H1 locs1 hrv hW1 hP1 hD1 hS1 hex1 => ?_)
  refine lv_aload_n hx hb dl_692 rfl (lv_at hl 2 rfl) ?_
  refine lv_aload_n hx hb dl_693 rfl (lv_at hl 0 rfl) ?_
  refine lv_iload_n hx hb dl_694 rfl (lv_at hl 3 rfl) ?_
  refine lv_iconst (v := 1) hx hb dl_695 (by decide) ?_
  refine lv_iadd hx hb dl_696 ?_
  refine va_sld hx hb hXs hbl hbA hS1 (sd_lin ex3 hi hL 1 (by decide)) dl_697 ?_
  refine sd_lcall (M := M1) (M2 := M2) (r := r) (a := 331) C0 hX hK hN hSS [xs (x3 + 1).toNatClampNeg] sd_i_X10_half (List.mem_of_getElem? (i := 1528) rfl) (List.mem_of_getElem? (i := 1529) rfl) (List.mem_of_getElem? (i := 1530) rfl) (List.mem_of_getElem? (i := 126) rfl) rfl sd_o_331 (m_X10_half (by omega) e2) hW1 hP1 hD1 hS1 (sd_ext_get hex1 hqm) hl.1 (Nat.le_of_ble_eq_true rfl) dl_698 ⟨Nat.le_of_ble_eq_true rfl, Nat.le_of_ble_eq_true rfl⟩ rfl (fun rv2 ws2 H2 locs2 hrv2 hW2 hP2 hD2 hS2 hex2 => ?_)
  refine lv_icmp_eq (tgt := 1187) hx hb dl_701 (by decide) (fun c1 => ?_) (fun c1 => absurd (Int32.toInt_inj.mp (hrv.trans hrv2.symm)) c1)
  exact kk M2 ws2 H2 locs2 hI hW2 hP2 hD2 hS2 (sd_ext_get hex2 (sd_ext_get hex1 hqx)) (sd_ext_get hex2 (sd_ext_get hex1 hqm))
set_option maxRecDepth 10000 in
theorem lc_agree {p : Program} {l : Launch} {e : Env} {s : State} {m : MethodId} {below : List Frame} {meth : Method} {c : Code} {b L : Nat} {xs : Nat → Int32} {D : va_G} {Q : State → Prop} (hL : L ≤ 3072) (C0 : lw_At p s m meth c b L xs) (hX : ∀ d j As E Ra, sd_X j As E Ra → sd_Snd l d j As E Ra) (hK : va_K D vwCl [] s) (hN : sd_NW s) (hSS : sd_SS (sd_LA s) s s.heap) {Inv : sd_M → Prop} (hs : sd_S2 Inv f_X9_agree f_X10_agree) {M : sd_M} (hM : Inv M) {ws : va_W} {H : Heap} {locs : List Loc} {ls : Array Slot} {qx qm i : Nat} {x3 : Int32} (hi : i + 6 ≤ L) (ex3 : x3 = nI i) (hW : sd_RW s (sd_rp M) ws) (hP : va_P D vwCl ws H) (hD : va_D (sd_LA s) ws) (hS : va_S (sd_LA s) s.heap H locs) (hqx : (ws.map (fun q => q.1))[0]? = some qx) (hqm : (ws.map (fun q => q.1))[331]? = some qm) (hl : lv_has ls 4 [(0, .ref b), (1, .ref qx), (2, .ref qm), (3, .int x3)])
    (kk : ∀ (M2 : sd_M) (ws2 : va_W) (H1 : Heap) (locs1 : List Loc), Inv M2 → sd_RW s (sd_rp M2) ws2 → va_P D vwCl ws2 H1 → va_D (sd_LA s) ws2 → va_S (sd_LA s) s.heap H1 locs1 → (ws2.map (fun q => q.1))[0]? = some qx → (ws2.map (fun q => q.1))[331]? = some qm → W p l e room_1 s m #[Value.ref b] below meth c H1 locs1 357 15544 Q (F0 m 1187 ls [])) : W p l e room_1 s m #[Value.ref b] below meth c H locs 357 15544 Q (F0 m 706 ls []) := by
  obtain ⟨hx, hb, hr, hml, hown, hts, hXs, hbl, hlocks, hgv⟩ := id C0
  have hbA : ¬ sd_LA s b := Nat.not_le.mpr hbl
  obtain ⟨r, M1, M2, e1, e2, hI⟩ := hs M hM _ _ (sd_rgi (xs (x3 + 1).toNatClampNeg)) (sd_rgi (xs (x3 + 2).toNatClampNeg))
  refine lv_aload_n hx hb dl_706 rfl (lv_at hl 1 rfl) ?_
  refine lv_aload_n hx hb dl_707 rfl (lv_at hl 0 rfl) ?_
  refine lv_iload_n hx hb dl_708 rfl (lv_at hl 3 rfl) ?_
  refine lv_iconst (v := 1) hx hb dl_709 (by decide) ?_
  refine lv_iadd hx hb dl_710 ?_
  refine va_sld hx hb hXs hbl hbA hS (sd_lin ex3 hi hL 1 (by decide)) dl_711 ?_
  refine lv_aload_n hx hb dl_712 rfl (lv_at hl 0 rfl) ?_
  refine lv_iload_n hx hb dl_713 rfl (lv_at hl 3 rfl) ?_
  refine lv_iconst (v := 2) hx hb dl_714 (by decide) ?_
  refine lv_iadd hx hb dl_715 ?_
  refine va_sld hx hb hXs hbl hbA hS (sd_lin ex3 hi hL 2 (by decide)) dl_716 ?_
  refine sd_lcall (M := M) (M2 := M1) (r := r) (a := 0) C0 hX hK hN hSS [xs (x3 + 1).toNatClampNeg, xs (x3 + 2).toNatClampNeg] sd_i_X9_agree (List.mem_of_getElem? (i := 892) rfl) (List.mem_of_getElem? (i := 893) rfl) (List.mem_of_getElem? (i := 894) rfl) (List.mem_of_getElem? (i := 116) rfl) rfl sd_o_0 (m_X9_agree (by omega) e1) hW hP hD hS hqx hl.1 (Nat.le_of_ble_eq_true rfl) dl_717 ⟨Nat.le_of_ble_eq_true rfl, Nat.le_of_ble_eq_true rfl⟩ rfl (fun rv ws1 H1 locs1 hrv hW1 hP1 hD1 hS1 hex1 => ?_)
  refine lv_aload_n hx hb dl_720 rfl (lv_at hl 2 rfl) ?_
  refine lv_aload_n hx hb dl_721 rfl (lv_at hl 0 rfl) ?_
  refine lv_iload_n hx hb dl_722 rfl (lv_at hl 3 rfl) ?_
  refine lv_iconst (v := 1) hx hb dl_723 (by decide) ?_
  refine lv_iadd hx hb dl_724 ?_
  refine va_sld hx hb hXs hbl hbA hS1 (sd_lin ex3 hi hL 1 (by decide)) dl_725 ?_
  refine lv_aload_n hx hb dl_726 rfl (lv_at hl 0 rfl) ?_
  refine lv_iload_n hx hb dl_727 rfl (lv_at hl 3 rfl) ?_
  refine lv_iconst (v := 2) hx hb dl_728 (by decide) ?_
  refine lv_iadd hx hb dl_729 ?_
  refine va_sld hx hb hXs hbl hbA hS1 (sd_lin ex3 hi hL 2 (by decide)) dl_730 ?_
  refine sd_lcall (M := M1) (M2 := M2) (r := r) (a := 331) C0 hX hK hN hSS [xs (x3 + 1).toNatClampNeg, xs (x3 + 2).toNatClampNeg] sd_i_X10_agree (List.mem_of_getElem? (i := 1540) rfl) (List.mem_of_getElem? (i := 1541) rfl) (List.mem_of_getElem? (i := 1542) rfl) (List.mem_of_getElem? (i := 126) rfl) rfl sd_o_331 (m_X10_agree (by omega) e2) hW1 hP1 hD1 hS1 (sd_ext_get hex1 hqm) hl.1 (Nat.le_of_ble_eq_true rfl) dl_731 ⟨Nat.le_of_ble_eq_true rfl, Nat.le_of_ble_eq_true rfl⟩ rfl (fun rv2 ws2 H2 locs2 hrv2 hW2 hP2 hD2 hS2 hex2 => ?_)
  refine lv_icmp_eq (tgt := 1187) hx hb dl_734 (by decide) (fun c1 => ?_) (fun c1 => absurd (Int32.toInt_inj.mp (hrv.trans hrv2.symm)) c1)
  exact kk M2 ws2 H2 locs2 hI hW2 hP2 hD2 hS2 (sd_ext_get hex2 (sd_ext_get hex1 hqx)) (sd_ext_get hex2 (sd_ext_get hex1 hqm))
set_option maxRecDepth 10000 in
theorem lc_rows {p : Program} {l : Launch} {e : Env} {s : State} {m : MethodId} {below : List Frame} {meth : Method} {c : Code} {b L : Nat} {xs : Nat → Int32} {D : va_G} {Q : State → Prop} (hL : L ≤ 3072) (C0 : lw_At p s m meth c b L xs) (hX : ∀ d j As E Ra, sd_X j As E Ra → sd_Snd l d j As E Ra) (hK : va_K D vwCl [] s) (hN : sd_NW s) (hSS : sd_SS (sd_LA s) s s.heap) {Inv : sd_M → Prop} (hs : sd_S1 Inv f_X9_rows f_X10_rows) {M : sd_M} (hM : Inv M) {ws : va_W} {H : Heap} {locs : List Loc} {ls : Array Slot} {qx qm i : Nat} {x3 : Int32} (hi : i + 6 ≤ L) (ex3 : x3 = nI i) (hW : sd_RW s (sd_rp M) ws) (hP : va_P D vwCl ws H) (hD : va_D (sd_LA s) ws) (hS : va_S (sd_LA s) s.heap H locs) (hqx : (ws.map (fun q => q.1))[0]? = some qx) (hqm : (ws.map (fun q => q.1))[331]? = some qm) (hl : lv_has ls 4 [(0, .ref b), (1, .ref qx), (2, .ref qm), (3, .int x3)])
    (kk : ∀ (M2 : sd_M) (ws2 : va_W) (H1 : Heap) (locs1 : List Loc), Inv M2 → sd_RW s (sd_rp M2) ws2 → va_P D vwCl ws2 H1 → va_D (sd_LA s) ws2 → va_S (sd_LA s) s.heap H1 locs1 → (ws2.map (fun q => q.1))[0]? = some qx → (ws2.map (fun q => q.1))[331]? = some qm → W p l e room_1 s m #[Value.ref b] below meth c H1 locs1 357 15544 Q (F0 m 1187 ls [])) : W p l e room_1 s m #[Value.ref b] below meth c H locs 357 15544 Q (F0 m 739 ls []) := by
  obtain ⟨hx, hb, hr, hml, hown, hts, hXs, hbl, hlocks, hgv⟩ := id C0
  have hbA : ¬ sd_LA s b := Nat.not_le.mpr hbl
  obtain ⟨r, M1, M2, e1, e2, hI⟩ := hs M hM _ (sd_rgi (xs (x3 + 1).toNatClampNeg))
  refine lv_aload_n hx hb dl_739 rfl (lv_at hl 1 rfl) ?_
  refine lv_aload_n hx hb dl_740 rfl (lv_at hl 0 rfl) ?_
  refine lv_iload_n hx hb dl_741 rfl (lv_at hl 3 rfl) ?_
  refine lv_iconst (v := 1) hx hb dl_742 (by decide) ?_
  refine lv_iadd hx hb dl_743 ?_
  refine va_sld hx hb hXs hbl hbA hS (sd_lin ex3 hi hL 1 (by decide)) dl_744 ?_
  refine sd_lcall (M := M) (M2 := M1) (r := r) (a := 0) C0 hX hK hN hSS [xs (x3 + 1).toNatClampNeg] sd_i_X9_rows (List.mem_of_getElem? (i := 900) rfl) (List.mem_of_getElem? (i := 901) rfl) (List.mem_of_getElem? (i := 902) rfl) (List.mem_of_getElem? (i := 116) rfl) rfl sd_o_0 (m_X9_rows (by omega) e1) hW hP hD hS hqx hl.1 (Nat.le_of_ble_eq_true rfl) dl_745 ⟨Nat.le_of_ble_eq_true rfl, Nat.le_of_ble_eq_true rfl⟩ rfl (fun rv ws1 H1 locs1 hrv hW1 hP1 hD1 hS1 hex1 => ?_)
  refine lv_aload_n hx hb dl_748 rfl (lv_at hl 2 rfl) ?_
  refine lv_aload_n hx hb dl_749 rfl (lv_at hl 0 rfl) ?_
  refine lv_iload_n hx hb dl_750 rfl (lv_at hl 3 rfl) ?_
  refine lv_iconst (v := 1) hx hb dl_751 (by decide) ?_
  refine lv_iadd hx hb dl_752 ?_
  refine va_sld hx hb hXs hbl hbA hS1 (sd_lin ex3 hi hL 1 (by decide)) dl_753 ?_
  refine sd_lcall (M := M1) (M2 := M2) (r := r) (a := 331) C0 hX hK hN hSS [xs (x3 + 1).toNatClampNeg] sd_i_X10_rows (List.mem_of_getElem? (i := 1544) rfl) (List.mem_of_getElem? (i := 1545) rfl) (List.mem_of_getElem? (i := 1546) rfl) (List.mem_of_getElem? (i := 126) rfl) rfl sd_o_331 (m_X10_rows (by omega) e2) hW1 hP1 hD1 hS1 (sd_ext_get hex1 hqm) hl.1 (Nat.le_of_ble_eq_true rfl) dl_754 ⟨Nat.le_of_ble_eq_true rfl, Nat.le_of_ble_eq_true rfl⟩ rfl (fun rv2 ws2 H2 locs2 hrv2 hW2 hP2 hD2 hS2 hex2 => ?_)
  refine lv_icmp_eq (tgt := 1187) hx hb dl_757 (by decide) (fun c1 => ?_) (fun c1 => absurd (Int32.toInt_inj.mp (hrv.trans hrv2.symm)) c1)
  exact kk M2 ws2 H2 locs2 hI hW2 hP2 hD2 hS2 (sd_ext_get hex2 (sd_ext_get hex1 hqx)) (sd_ext_get hex2 (sd_ext_get hex1 hqm))
set_option maxRecDepth 10000 in
theorem lc_ahead {p : Program} {l : Launch} {e : Env} {s : State} {m : MethodId} {below : List Frame} {meth : Method} {c : Code} {b L : Nat} {xs : Nat → Int32} {D : va_G} {Q : State → Prop} (hL : L ≤ 3072) (C0 : lw_At p s m meth c b L xs) (hX : ∀ d j As E Ra, sd_X j As E Ra → sd_Snd l d j As E Ra) (hK : va_K D vwCl [] s) (hN : sd_NW s) (hSS : sd_SS (sd_LA s) s s.heap) {Inv : sd_M → Prop} (hs : sd_S2 Inv f_X9_ahead f_X10_ahead) {M : sd_M} (hM : Inv M) {ws : va_W} {H : Heap} {locs : List Loc} {ls : Array Slot} {qx qm i : Nat} {x3 : Int32} (hi : i + 6 ≤ L) (ex3 : x3 = nI i) (hW : sd_RW s (sd_rp M) ws) (hP : va_P D vwCl ws H) (hD : va_D (sd_LA s) ws) (hS : va_S (sd_LA s) s.heap H locs) (hqx : (ws.map (fun q => q.1))[0]? = some qx) (hqm : (ws.map (fun q => q.1))[331]? = some qm) (hl : lv_has ls 4 [(0, .ref b), (1, .ref qx), (2, .ref qm), (3, .int x3)])
    (kk : ∀ (M2 : sd_M) (ws2 : va_W) (H1 : Heap) (locs1 : List Loc), Inv M2 → sd_RW s (sd_rp M2) ws2 → va_P D vwCl ws2 H1 → va_D (sd_LA s) ws2 → va_S (sd_LA s) s.heap H1 locs1 → (ws2.map (fun q => q.1))[0]? = some qx → (ws2.map (fun q => q.1))[331]? = some qm → W p l e room_1 s m #[Value.ref b] below meth c H1 locs1 357 15544 Q (F0 m 1187 ls [])) : W p l e room_1 s m #[Value.ref b] below meth c H locs 357 15544 Q (F0 m 762 ls []) := by
  obtain ⟨hx, hb, hr, hml, hown, hts, hXs, hbl, hlocks, hgv⟩ := id C0
  have hbA : ¬ sd_LA s b := Nat.not_le.mpr hbl
  obtain ⟨r, M1, M2, e1, e2, hI⟩ := hs M hM _ _ (sd_rgi (xs (x3 + 1).toNatClampNeg)) (sd_rgi (xs (x3 + 2).toNatClampNeg))
  refine lv_aload_n hx hb dl_762 rfl (lv_at hl 1 rfl) ?_
  refine lv_aload_n hx hb dl_763 rfl (lv_at hl 0 rfl) ?_
  refine lv_iload_n hx hb dl_764 rfl (lv_at hl 3 rfl) ?_
  refine lv_iconst (v := 1) hx hb dl_765 (by decide) ?_
  refine lv_iadd hx hb dl_766 ?_
  refine va_sld hx hb hXs hbl hbA hS (sd_lin ex3 hi hL 1 (by decide)) dl_767 ?_
  refine lv_aload_n hx hb dl_768 rfl (lv_at hl 0 rfl) ?_
  refine lv_iload_n hx hb dl_769 rfl (lv_at hl 3 rfl) ?_
  refine lv_iconst (v := 2) hx hb dl_770 (by decide) ?_
  refine lv_iadd hx hb dl_771 ?_
  refine va_sld hx hb hXs hbl hbA hS (sd_lin ex3 hi hL 2 (by decide)) dl_772 ?_
  refine sd_lcall (M := M) (M2 := M1) (r := r) (a := 0) C0 hX hK hN hSS [xs (x3 + 1).toNatClampNeg, xs (x3 + 2).toNatClampNeg] sd_i_X9_ahead (List.mem_of_getElem? (i := 915) rfl) (List.mem_of_getElem? (i := 916) rfl) (List.mem_of_getElem? (i := 917) rfl) (List.mem_of_getElem? (i := 116) rfl) rfl sd_o_0 (m_X9_ahead (by omega) e1) hW hP hD hS hqx hl.1 (Nat.le_of_ble_eq_true rfl) dl_773 ⟨Nat.le_of_ble_eq_true rfl, Nat.le_of_ble_eq_true rfl⟩ rfl (fun rv ws1 H1 locs1 hrv hW1 hP1 hD1 hS1 hex1 => ?_)
  refine lv_aload_n hx hb dl_776 rfl (lv_at hl 2 rfl) ?_
  refine lv_aload_n hx hb dl_777 rfl (lv_at hl 0 rfl) ?_
  refine lv_iload_n hx hb dl_778 rfl (lv_at hl 3 rfl) ?_
  refine lv_iconst (v := 1) hx hb dl_779 (by decide) ?_
  refine lv_iadd hx hb dl_780 ?_
  refine va_sld hx hb hXs hbl hbA hS1 (sd_lin ex3 hi hL 1 (by decide)) dl_781 ?_
  refine lv_aload_n hx hb dl_782 rfl (lv_at hl 0 rfl) ?_
  refine lv_iload_n hx hb dl_783 rfl (lv_at hl 3 rfl) ?_
  refine lv_iconst (v := 2) hx hb dl_784 (by decide) ?_
  refine lv_iadd hx hb dl_785 ?_
  refine va_sld hx hb hXs hbl hbA hS1 (sd_lin ex3 hi hL 2 (by decide)) dl_786 ?_
  refine sd_lcall (M := M1) (M2 := M2) (r := r) (a := 331) C0 hX hK hN hSS [xs (x3 + 1).toNatClampNeg, xs (x3 + 2).toNatClampNeg] sd_i_X10_ahead (List.mem_of_getElem? (i := 1560) rfl) (List.mem_of_getElem? (i := 1561) rfl) (List.mem_of_getElem? (i := 1562) rfl) (List.mem_of_getElem? (i := 126) rfl) rfl sd_o_331 (m_X10_ahead (by omega) e2) hW1 hP1 hD1 hS1 (sd_ext_get hex1 hqm) hl.1 (Nat.le_of_ble_eq_true rfl) dl_787 ⟨Nat.le_of_ble_eq_true rfl, Nat.le_of_ble_eq_true rfl⟩ rfl (fun rv2 ws2 H2 locs2 hrv2 hW2 hP2 hD2 hS2 hex2 => ?_)
  refine lv_icmp_eq (tgt := 1187) hx hb dl_790 (by decide) (fun c1 => ?_) (fun c1 => absurd (Int32.toInt_inj.mp (hrv.trans hrv2.symm)) c1)
  exact kk M2 ws2 H2 locs2 hI hW2 hP2 hD2 hS2 (sd_ext_get hex2 (sd_ext_get hex1 hqx)) (sd_ext_get hex2 (sd_ext_get hex1 hqm))
set_option maxRecDepth 10000 in
theorem lc_full {p : Program} {l : Launch} {e : Env} {s : State} {m : MethodId} {below : List Frame} {meth : Method} {c : Code} {b L : Nat} {xs : Nat → Int32} {D : va_G} {Q : State → Prop} (hL : L ≤ 3072) (C0 : lw_At p s m meth c b L xs) (hX : ∀ d j As E Ra, sd_X j As E Ra → sd_Snd l d j As E Ra) (hK : va_K D vwCl [] s) (hN : sd_NW s) (hSS : sd_SS (sd_LA s) s s.heap) {Inv : sd_M → Prop} (hs : sd_S0 Inv f_X9_full f_X10_full) {M : sd_M} (hM : Inv M) {ws : va_W} {H : Heap} {locs : List Loc} {ls : Array Slot} {qx qm i : Nat} {x3 : Int32} (hi : i + 6 ≤ L) (ex3 : x3 = nI i) (hW : sd_RW s (sd_rp M) ws) (hP : va_P D vwCl ws H) (hD : va_D (sd_LA s) ws) (hS : va_S (sd_LA s) s.heap H locs) (hqx : (ws.map (fun q => q.1))[0]? = some qx) (hqm : (ws.map (fun q => q.1))[331]? = some qm) (hl : lv_has ls 4 [(0, .ref b), (1, .ref qx), (2, .ref qm), (3, .int x3)])
    (kk : ∀ (M2 : sd_M) (ws2 : va_W) (H1 : Heap) (locs1 : List Loc), Inv M2 → sd_RW s (sd_rp M2) ws2 → va_P D vwCl ws2 H1 → va_D (sd_LA s) ws2 → va_S (sd_LA s) s.heap H1 locs1 → (ws2.map (fun q => q.1))[0]? = some qx → (ws2.map (fun q => q.1))[331]? = some qm → W p l e room_1 s m #[Value.ref b] below meth c H1 locs1 357 15544 Q (F0 m 1187 ls [])) : W p l e room_1 s m #[Value.ref b] below meth c H locs 357 15544 Q (F0 m 795 ls []) := by
  obtain ⟨hx, hb, hr, hml, hown, hts, hXs, hbl, hlocks, hgv⟩ := id C0
  have hbA : ¬ sd_LA s b := Nat.not_le.mpr hbl
  obtain ⟨r, M1, M2, e1, e2, hI⟩ := hs M hM
  refine lv_aload_n hx hb dl_795 rfl (lv_at hl 1 rfl) ?_
  refine sd_lcall (M := M) (M2 := M1) (r := r) (a := 0) C0 hX hK hN hSS [] sd_i_X9_full (List.mem_of_getElem? (i := 919) rfl) (List.mem_of_getElem? (i := 920) rfl) (List.mem_of_getElem? (i := 921) rfl) (List.mem_of_getElem? (i := 116) rfl) rfl sd_o_0 (m_X9_full (by omega) e1) hW hP hD hS hqx hl.1 (Nat.le_of_ble_eq_true rfl) dl_796 ⟨Nat.le_of_ble_eq_true rfl, Nat.le_of_ble_eq_true rfl⟩ rfl (fun rv ws1 H1 locs1 hrv hW1 hP1 hD1 hS1 hex1 => ?_)
  refine lv_aload_n hx hb dl_799 rfl (lv_at hl 2 rfl) ?_
  refine sd_lcall (M := M1) (M2 := M2) (r := r) (a := 331) C0 hX hK hN hSS [] sd_i_X10_full (List.mem_of_getElem? (i := 1570) rfl) (List.mem_of_getElem? (i := 1571) rfl) (List.mem_of_getElem? (i := 1572) rfl) (List.mem_of_getElem? (i := 126) rfl) rfl sd_o_331 (m_X10_full (by omega) e2) hW1 hP1 hD1 hS1 (sd_ext_get hex1 hqm) hl.1 (Nat.le_of_ble_eq_true rfl) dl_800 ⟨Nat.le_of_ble_eq_true rfl, Nat.le_of_ble_eq_true rfl⟩ rfl (fun rv2 ws2 H2 locs2 hrv2 hW2 hP2 hD2 hS2 hex2 => ?_)
  refine lv_icmp_eq (tgt := 1187) hx hb dl_803 (by decide) (fun c1 => ?_) (fun c1 => absurd (Int32.toInt_inj.mp (hrv.trans hrv2.symm)) c1)
  exact kk M2 ws2 H2 locs2 hI hW2 hP2 hD2 hS2 (sd_ext_get hex2 (sd_ext_get hex1 hqx)) (sd_ext_get hex2 (sd_ext_get hex1 hqm))
set_option maxRecDepth 10000 in
theorem lc_taken {p : Program} {l : Launch} {e : Env} {s : State} {m : MethodId} {below : List Frame} {meth : Method} {c : Code} {b L : Nat} {xs : Nat → Int32} {D : va_G} {Q : State → Prop} (hL : L ≤ 3072) (C0 : lw_At p s m meth c b L xs) (hX : ∀ d j As E Ra, sd_X j As E Ra → sd_Snd l d j As E Ra) (hK : va_K D vwCl [] s) (hN : sd_NW s) (hSS : sd_SS (sd_LA s) s s.heap) {Inv : sd_M → Prop} (hs : sd_S1 Inv f_X9_taken f_X10_taken) {M : sd_M} (hM : Inv M) {ws : va_W} {H : Heap} {locs : List Loc} {ls : Array Slot} {qx qm i : Nat} {x3 : Int32} (hi : i + 6 ≤ L) (ex3 : x3 = nI i) (hW : sd_RW s (sd_rp M) ws) (hP : va_P D vwCl ws H) (hD : va_D (sd_LA s) ws) (hS : va_S (sd_LA s) s.heap H locs) (hqx : (ws.map (fun q => q.1))[0]? = some qx) (hqm : (ws.map (fun q => q.1))[331]? = some qm) (hl : lv_has ls 4 [(0, .ref b), (1, .ref qx), (2, .ref qm), (3, .int x3)])
    (kk : ∀ (M2 : sd_M) (ws2 : va_W) (H1 : Heap) (locs1 : List Loc), Inv M2 → sd_RW s (sd_rp M2) ws2 → va_P D vwCl ws2 H1 → va_D (sd_LA s) ws2 → va_S (sd_LA s) s.heap H1 locs1 → (ws2.map (fun q => q.1))[0]? = some qx → (ws2.map (fun q => q.1))[331]? = some qm → W p l e room_1 s m #[Value.ref b] below meth c H1 locs1 357 15544 Q (F0 m 1187 ls [])) : W p l e room_1 s m #[Value.ref b] below meth c H locs 357 15544 Q (F0 m 808 ls []) := by
  obtain ⟨hx, hb, hr, hml, hown, hts, hXs, hbl, hlocks, hgv⟩ := id C0
  have hbA : ¬ sd_LA s b := Nat.not_le.mpr hbl
  obtain ⟨r, M1, M2, e1, e2, hI⟩ := hs M hM _ (sd_rgi (xs (x3 + 1).toNatClampNeg))
  refine lv_aload_n hx hb dl_808 rfl (lv_at hl 1 rfl) ?_
  refine lv_aload_n hx hb dl_809 rfl (lv_at hl 0 rfl) ?_
  refine lv_iload_n hx hb dl_810 rfl (lv_at hl 3 rfl) ?_
  refine lv_iconst (v := 1) hx hb dl_811 (by decide) ?_
  refine lv_iadd hx hb dl_812 ?_
  refine va_sld hx hb hXs hbl hbA hS (sd_lin ex3 hi hL 1 (by decide)) dl_813 ?_
  refine sd_lcall (M := M) (M2 := M1) (r := r) (a := 0) C0 hX hK hN hSS [xs (x3 + 1).toNatClampNeg] sd_i_X9_taken (List.mem_of_getElem? (i := 923) rfl) (List.mem_of_getElem? (i := 924) rfl) (List.mem_of_getElem? (i := 925) rfl) (List.mem_of_getElem? (i := 116) rfl) rfl sd_o_0 (m_X9_taken (by omega) e1) hW hP hD hS hqx hl.1 (Nat.le_of_ble_eq_true rfl) dl_814 ⟨Nat.le_of_ble_eq_true rfl, Nat.le_of_ble_eq_true rfl⟩ rfl (fun rv ws1 H1 locs1 hrv hW1 hP1 hD1 hS1 hex1 => ?_)
  refine lv_aload_n hx hb dl_817 rfl (lv_at hl 2 rfl) ?_
  refine lv_aload_n hx hb dl_818 rfl (lv_at hl 0 rfl) ?_
  refine lv_iload_n hx hb dl_819 rfl (lv_at hl 3 rfl) ?_
  refine lv_iconst (v := 1) hx hb dl_820 (by decide) ?_
  refine lv_iadd hx hb dl_821 ?_
  refine va_sld hx hb hXs hbl hbA hS1 (sd_lin ex3 hi hL 1 (by decide)) dl_822 ?_
  refine sd_lcall (M := M1) (M2 := M2) (r := r) (a := 331) C0 hX hK hN hSS [xs (x3 + 1).toNatClampNeg] sd_i_X10_taken (List.mem_of_getElem? (i := 1574) rfl) (List.mem_of_getElem? (i := 1575) rfl) (List.mem_of_getElem? (i := 1576) rfl) (List.mem_of_getElem? (i := 126) rfl) rfl sd_o_331 (m_X10_taken (by omega) e2) hW1 hP1 hD1 hS1 (sd_ext_get hex1 hqm) hl.1 (Nat.le_of_ble_eq_true rfl) dl_823 ⟨Nat.le_of_ble_eq_true rfl, Nat.le_of_ble_eq_true rfl⟩ rfl (fun rv2 ws2 H2 locs2 hrv2 hW2 hP2 hD2 hS2 hex2 => ?_)
  refine lv_icmp_eq (tgt := 1187) hx hb dl_826 (by decide) (fun c1 => ?_) (fun c1 => absurd (Int32.toInt_inj.mp (hrv.trans hrv2.symm)) c1)
  exact kk M2 ws2 H2 locs2 hI hW2 hP2 hD2 hS2 (sd_ext_get hex2 (sd_ext_get hex1 hqx)) (sd_ext_get hex2 (sd_ext_get hex1 hqm))
set_option maxRecDepth 10000 in
theorem lc_sizes {p : Program} {l : Launch} {e : Env} {s : State} {m : MethodId} {below : List Frame} {meth : Method} {c : Code} {b L : Nat} {xs : Nat → Int32} {D : va_G} {Q : State → Prop} (hL : L ≤ 3072) (C0 : lw_At p s m meth c b L xs) (hX : ∀ d j As E Ra, sd_X j As E Ra → sd_Snd l d j As E Ra) (hK : va_K D vwCl [] s) (hN : sd_NW s) (hSS : sd_SS (sd_LA s) s s.heap) {Inv : sd_M → Prop} (hs : sd_S2 Inv f_X9_sizes f_X10_sizes) {M : sd_M} (hM : Inv M) {ws : va_W} {H : Heap} {locs : List Loc} {ls : Array Slot} {qx qm i : Nat} {x3 : Int32} (hi : i + 6 ≤ L) (ex3 : x3 = nI i) (hW : sd_RW s (sd_rp M) ws) (hP : va_P D vwCl ws H) (hD : va_D (sd_LA s) ws) (hS : va_S (sd_LA s) s.heap H locs) (hqx : (ws.map (fun q => q.1))[0]? = some qx) (hqm : (ws.map (fun q => q.1))[331]? = some qm) (hl : lv_has ls 4 [(0, .ref b), (1, .ref qx), (2, .ref qm), (3, .int x3)])
    (kk : ∀ (M2 : sd_M) (ws2 : va_W) (H1 : Heap) (locs1 : List Loc), Inv M2 → sd_RW s (sd_rp M2) ws2 → va_P D vwCl ws2 H1 → va_D (sd_LA s) ws2 → va_S (sd_LA s) s.heap H1 locs1 → (ws2.map (fun q => q.1))[0]? = some qx → (ws2.map (fun q => q.1))[331]? = some qm → W p l e room_1 s m #[Value.ref b] below meth c H1 locs1 357 15544 Q (F0 m 1187 ls [])) : W p l e room_1 s m #[Value.ref b] below meth c H locs 357 15544 Q (F0 m 831 ls []) := by
  obtain ⟨hx, hb, hr, hml, hown, hts, hXs, hbl, hlocks, hgv⟩ := id C0
  have hbA : ¬ sd_LA s b := Nat.not_le.mpr hbl
  obtain ⟨r, M1, M2, e1, e2, hI⟩ := hs M hM _ _ (sd_rgi (xs (x3 + 1).toNatClampNeg)) (sd_rgi (xs (x3 + 2).toNatClampNeg))
  refine lv_aload_n hx hb dl_831 rfl (lv_at hl 1 rfl) ?_
  refine lv_aload_n hx hb dl_832 rfl (lv_at hl 0 rfl) ?_
  refine lv_iload_n hx hb dl_833 rfl (lv_at hl 3 rfl) ?_
  refine lv_iconst (v := 1) hx hb dl_834 (by decide) ?_
  refine lv_iadd hx hb dl_835 ?_
  refine va_sld hx hb hXs hbl hbA hS (sd_lin ex3 hi hL 1 (by decide)) dl_836 ?_
  refine lv_aload_n hx hb dl_837 rfl (lv_at hl 0 rfl) ?_
  refine lv_iload_n hx hb dl_838 rfl (lv_at hl 3 rfl) ?_
  refine lv_iconst (v := 2) hx hb dl_839 (by decide) ?_
  refine lv_iadd hx hb dl_840 ?_
  refine va_sld hx hb hXs hbl hbA hS (sd_lin ex3 hi hL 2 (by decide)) dl_841 ?_
  refine sd_lcall (M := M) (M2 := M1) (r := r) (a := 0) C0 hX hK hN hSS [xs (x3 + 1).toNatClampNeg, xs (x3 + 2).toNatClampNeg] sd_i_X9_sizes (List.mem_of_getElem? (i := 955) rfl) (List.mem_of_getElem? (i := 956) rfl) (List.mem_of_getElem? (i := 957) rfl) (List.mem_of_getElem? (i := 116) rfl) rfl sd_o_0 (m_X9_sizes (by omega) e1) hW hP hD hS hqx hl.1 (Nat.le_of_ble_eq_true rfl) dl_842 ⟨Nat.le_of_ble_eq_true rfl, Nat.le_of_ble_eq_true rfl⟩ rfl (fun rv ws1 H1 locs1 hrv hW1 hP1 hD1 hS1 hex1 => ?_)
  refine lv_aload_n hx hb dl_845 rfl (lv_at hl 2 rfl) ?_
  refine lv_aload_n hx hb dl_846 rfl (lv_at hl 0 rfl) ?_
  refine lv_iload_n hx hb dl_847 rfl (lv_at hl 3 rfl) ?_
  refine lv_iconst (v := 1) hx hb dl_848 (by decide) ?_
  refine lv_iadd hx hb dl_849 ?_
  refine va_sld hx hb hXs hbl hbA hS1 (sd_lin ex3 hi hL 1 (by decide)) dl_850 ?_
  refine lv_aload_n hx hb dl_851 rfl (lv_at hl 0 rfl) ?_
  refine lv_iload_n hx hb dl_852 rfl (lv_at hl 3 rfl) ?_
  refine lv_iconst (v := 2) hx hb dl_853 (by decide) ?_
  refine lv_iadd hx hb dl_854 ?_
  refine va_sld hx hb hXs hbl hbA hS1 (sd_lin ex3 hi hL 2 (by decide)) dl_855 ?_
  refine sd_lcall (M := M1) (M2 := M2) (r := r) (a := 331) C0 hX hK hN hSS [xs (x3 + 1).toNatClampNeg, xs (x3 + 2).toNatClampNeg] sd_i_X10_sizes (List.mem_of_getElem? (i := 1627) rfl) (List.mem_of_getElem? (i := 1628) rfl) (List.mem_of_getElem? (i := 1629) rfl) (List.mem_of_getElem? (i := 126) rfl) rfl sd_o_331 (m_X10_sizes (by omega) e2) hW1 hP1 hD1 hS1 (sd_ext_get hex1 hqm) hl.1 (Nat.le_of_ble_eq_true rfl) dl_856 ⟨Nat.le_of_ble_eq_true rfl, Nat.le_of_ble_eq_true rfl⟩ rfl (fun rv2 ws2 H2 locs2 hrv2 hW2 hP2 hD2 hS2 hex2 => ?_)
  refine lv_icmp_eq (tgt := 1187) hx hb dl_859 (by decide) (fun c1 => ?_) (fun c1 => absurd (Int32.toInt_inj.mp (hrv.trans hrv2.symm)) c1)
  exact kk M2 ws2 H2 locs2 hI hW2 hP2 hD2 hS2 (sd_ext_get hex2 (sd_ext_get hex1 hqx)) (sd_ext_get hex2 (sd_ext_get hex1 hqm))
set_option maxRecDepth 10000 in
theorem lc_standing {p : Program} {l : Launch} {e : Env} {s : State} {m : MethodId} {below : List Frame} {meth : Method} {c : Code} {b L : Nat} {xs : Nat → Int32} {D : va_G} {Q : State → Prop} (hL : L ≤ 3072) (C0 : lw_At p s m meth c b L xs) (hX : ∀ d j As E Ra, sd_X j As E Ra → sd_Snd l d j As E Ra) (hK : va_K D vwCl [] s) (hN : sd_NW s) (hSS : sd_SS (sd_LA s) s s.heap) {Inv : sd_M → Prop} (hs : sd_S1 Inv f_X9_standing f_X10_standing) {M : sd_M} (hM : Inv M) {ws : va_W} {H : Heap} {locs : List Loc} {ls : Array Slot} {qx qm i : Nat} {x3 : Int32} (hi : i + 6 ≤ L) (ex3 : x3 = nI i) (hW : sd_RW s (sd_rp M) ws) (hP : va_P D vwCl ws H) (hD : va_D (sd_LA s) ws) (hS : va_S (sd_LA s) s.heap H locs) (hqx : (ws.map (fun q => q.1))[0]? = some qx) (hqm : (ws.map (fun q => q.1))[331]? = some qm) (hl : lv_has ls 4 [(0, .ref b), (1, .ref qx), (2, .ref qm), (3, .int x3)])
    (kk : ∀ (M2 : sd_M) (ws2 : va_W) (H1 : Heap) (locs1 : List Loc), Inv M2 → sd_RW s (sd_rp M2) ws2 → va_P D vwCl ws2 H1 → va_D (sd_LA s) ws2 → va_S (sd_LA s) s.heap H1 locs1 → (ws2.map (fun q => q.1))[0]? = some qx → (ws2.map (fun q => q.1))[331]? = some qm → W p l e room_1 s m #[Value.ref b] below meth c H1 locs1 357 15544 Q (F0 m 1187 ls [])) : W p l e room_1 s m #[Value.ref b] below meth c H locs 357 15544 Q (F0 m 864 ls []) := by
  obtain ⟨hx, hb, hr, hml, hown, hts, hXs, hbl, hlocks, hgv⟩ := id C0
  have hbA : ¬ sd_LA s b := Nat.not_le.mpr hbl
  obtain ⟨r, M1, M2, e1, e2, hI⟩ := hs M hM _ (sd_rgi (xs (x3 + 1).toNatClampNeg))
  refine lv_aload_n hx hb dl_864 rfl (lv_at hl 1 rfl) ?_
  refine lv_aload_n hx hb dl_865 rfl (lv_at hl 0 rfl) ?_
  refine lv_iload_n hx hb dl_866 rfl (lv_at hl 3 rfl) ?_
  refine lv_iconst (v := 1) hx hb dl_867 (by decide) ?_
  refine lv_iadd hx hb dl_868 ?_
  refine va_sld hx hb hXs hbl hbA hS (sd_lin ex3 hi hL 1 (by decide)) dl_869 ?_
  refine sd_lcall (M := M) (M2 := M1) (r := r) (a := 0) C0 hX hK hN hSS [xs (x3 + 1).toNatClampNeg] sd_i_X9_standing (List.mem_of_getElem? (i := 972) rfl) (List.mem_of_getElem? (i := 973) rfl) (List.mem_of_getElem? (i := 974) rfl) (List.mem_of_getElem? (i := 116) rfl) rfl sd_o_0 (m_X9_standing (by omega) e1) hW hP hD hS hqx hl.1 (Nat.le_of_ble_eq_true rfl) dl_870 ⟨Nat.le_of_ble_eq_true rfl, Nat.le_of_ble_eq_true rfl⟩ rfl (fun rv ws1 H1 locs1 hrv hW1 hP1 hD1 hS1 hex1 => ?_)
  refine lv_aload_n hx hb dl_873 rfl (lv_at hl 2 rfl) ?_
  refine lv_aload_n hx hb dl_874 rfl (lv_at hl 0 rfl) ?_
  refine lv_iload_n hx hb dl_875 rfl (lv_at hl 3 rfl) ?_
  refine lv_iconst (v := 1) hx hb dl_876 (by decide) ?_
  refine lv_iadd hx hb dl_877 ?_
  refine va_sld hx hb hXs hbl hbA hS1 (sd_lin ex3 hi hL 1 (by decide)) dl_878 ?_
  refine sd_lcall (M := M1) (M2 := M2) (r := r) (a := 331) C0 hX hK hN hSS [xs (x3 + 1).toNatClampNeg] sd_i_X10_standing (List.mem_of_getElem? (i := 1631) rfl) (List.mem_of_getElem? (i := 1632) rfl) (List.mem_of_getElem? (i := 1633) rfl) (List.mem_of_getElem? (i := 126) rfl) rfl sd_o_331 (m_X10_standing (by omega) e2) hW1 hP1 hD1 hS1 (sd_ext_get hex1 hqm) hl.1 (Nat.le_of_ble_eq_true rfl) dl_879 ⟨Nat.le_of_ble_eq_true rfl, Nat.le_of_ble_eq_true rfl⟩ rfl (fun rv2 ws2 H2 locs2 hrv2 hW2 hP2 hD2 hS2 hex2 => ?_)
  refine lv_icmp_eq (tgt := 1187) hx hb dl_882 (by decide) (fun c1 => ?_) (fun c1 => absurd (Int32.toInt_inj.mp (hrv.trans hrv2.symm)) c1)
  exact kk M2 ws2 H2 locs2 hI hW2 hP2 hD2 hS2 (sd_ext_get hex2 (sd_ext_get hex1 hqx)) (sd_ext_get hex2 (sd_ext_get hex1 hqm))
set_option maxRecDepth 10000 in
theorem lc_rests {p : Program} {l : Launch} {e : Env} {s : State} {m : MethodId} {below : List Frame} {meth : Method} {c : Code} {b L : Nat} {xs : Nat → Int32} {D : va_G} {Q : State → Prop} (hL : L ≤ 3072) (C0 : lw_At p s m meth c b L xs) (hX : ∀ d j As E Ra, sd_X j As E Ra → sd_Snd l d j As E Ra) (hK : va_K D vwCl [] s) (hN : sd_NW s) (hSS : sd_SS (sd_LA s) s s.heap) {Inv : sd_M → Prop} (hs : sd_S3 Inv f_X9_rests f_X10_rests) {M : sd_M} (hM : Inv M) {ws : va_W} {H : Heap} {locs : List Loc} {ls : Array Slot} {qx qm i : Nat} {x3 : Int32} (hi : i + 6 ≤ L) (ex3 : x3 = nI i) (hW : sd_RW s (sd_rp M) ws) (hP : va_P D vwCl ws H) (hD : va_D (sd_LA s) ws) (hS : va_S (sd_LA s) s.heap H locs) (hqx : (ws.map (fun q => q.1))[0]? = some qx) (hqm : (ws.map (fun q => q.1))[331]? = some qm) (hl : lv_has ls 4 [(0, .ref b), (1, .ref qx), (2, .ref qm), (3, .int x3)])
    (kk : ∀ (M2 : sd_M) (ws2 : va_W) (H1 : Heap) (locs1 : List Loc), Inv M2 → sd_RW s (sd_rp M2) ws2 → va_P D vwCl ws2 H1 → va_D (sd_LA s) ws2 → va_S (sd_LA s) s.heap H1 locs1 → (ws2.map (fun q => q.1))[0]? = some qx → (ws2.map (fun q => q.1))[331]? = some qm → W p l e room_1 s m #[Value.ref b] below meth c H1 locs1 357 15544 Q (F0 m 1187 ls [])) : W p l e room_1 s m #[Value.ref b] below meth c H locs 357 15544 Q (F0 m 887 ls []) := by
  obtain ⟨hx, hb, hr, hml, hown, hts, hXs, hbl, hlocks, hgv⟩ := id C0
  have hbA : ¬ sd_LA s b := Nat.not_le.mpr hbl
  obtain ⟨r, M1, M2, e1, e2, hI⟩ := hs M hM _ _ _ (sd_rgi (xs (x3 + 1).toNatClampNeg)) (sd_rgi (xs (x3 + 2).toNatClampNeg)) (sd_rgi (xs (x3 + 3).toNatClampNeg))
  refine lv_aload_n hx hb dl_887 rfl (lv_at hl 1 rfl) ?_
  refine lv_aload_n hx hb dl_888 rfl (lv_at hl 0 rfl) ?_
  refine lv_iload_n hx hb dl_889 rfl (lv_at hl 3 rfl) ?_
  refine lv_iconst (v := 1) hx hb dl_890 (by decide) ?_
  refine lv_iadd hx hb dl_891 ?_
  refine va_sld hx hb hXs hbl hbA hS (sd_lin ex3 hi hL 1 (by decide)) dl_892 ?_
  refine lv_aload_n hx hb dl_893 rfl (lv_at hl 0 rfl) ?_
  refine lv_iload_n hx hb dl_894 rfl (lv_at hl 3 rfl) ?_
  refine lv_iconst (v := 2) hx hb dl_895 (by decide) ?_
  refine lv_iadd hx hb dl_896 ?_
  refine va_sld hx hb hXs hbl hbA hS (sd_lin ex3 hi hL 2 (by decide)) dl_897 ?_
  refine lv_aload_n hx hb dl_898 rfl (lv_at hl 0 rfl) ?_
  refine lv_iload_n hx hb dl_899 rfl (lv_at hl 3 rfl) ?_
  refine lv_iconst (v := 3) hx hb dl_900 (by decide) ?_
  refine lv_iadd hx hb dl_901 ?_
  refine va_sld hx hb hXs hbl hbA hS (sd_lin ex3 hi hL 3 (by decide)) dl_902 ?_
  refine sd_lcall (M := M) (M2 := M1) (r := r) (a := 0) C0 hX hK hN hSS [xs (x3 + 1).toNatClampNeg, xs (x3 + 2).toNatClampNeg, xs (x3 + 3).toNatClampNeg] sd_i_X9_rests (List.mem_of_getElem? (i := 993) rfl) (List.mem_of_getElem? (i := 994) rfl) (List.mem_of_getElem? (i := 995) rfl) (List.mem_of_getElem? (i := 116) rfl) rfl sd_o_0 (m_X9_rests (by omega) e1) hW hP hD hS hqx hl.1 (Nat.le_of_ble_eq_true rfl) dl_903 ⟨Nat.le_of_ble_eq_true rfl, Nat.le_of_ble_eq_true rfl⟩ rfl (fun rv ws1 H1 locs1 hrv hW1 hP1 hD1 hS1 hex1 => ?_)
  refine lv_aload_n hx hb dl_906 rfl (lv_at hl 2 rfl) ?_
  refine lv_aload_n hx hb dl_907 rfl (lv_at hl 0 rfl) ?_
  refine lv_iload_n hx hb dl_908 rfl (lv_at hl 3 rfl) ?_
  refine lv_iconst (v := 1) hx hb dl_909 (by decide) ?_
  refine lv_iadd hx hb dl_910 ?_
  refine va_sld hx hb hXs hbl hbA hS1 (sd_lin ex3 hi hL 1 (by decide)) dl_911 ?_
  refine lv_aload_n hx hb dl_912 rfl (lv_at hl 0 rfl) ?_
  refine lv_iload_n hx hb dl_913 rfl (lv_at hl 3 rfl) ?_
  refine lv_iconst (v := 2) hx hb dl_914 (by decide) ?_
  refine lv_iadd hx hb dl_915 ?_
  refine va_sld hx hb hXs hbl hbA hS1 (sd_lin ex3 hi hL 2 (by decide)) dl_916 ?_
  refine lv_aload_n hx hb dl_917 rfl (lv_at hl 0 rfl) ?_
  refine lv_iload_n hx hb dl_918 rfl (lv_at hl 3 rfl) ?_
  refine lv_iconst (v := 3) hx hb dl_919 (by decide) ?_
  refine lv_iadd hx hb dl_920 ?_
  refine va_sld hx hb hXs hbl hbA hS1 (sd_lin ex3 hi hL 3 (by decide)) dl_921 ?_
  refine sd_lcall (M := M1) (M2 := M2) (r := r) (a := 331) C0 hX hK hN hSS [xs (x3 + 1).toNatClampNeg, xs (x3 + 2).toNatClampNeg, xs (x3 + 3).toNatClampNeg] sd_i_X10_rests (List.mem_of_getElem? (i := 1578) rfl) (List.mem_of_getElem? (i := 1579) rfl) (List.mem_of_getElem? (i := 1580) rfl) (List.mem_of_getElem? (i := 126) rfl) rfl sd_o_331 (m_X10_rests (by omega) e2) hW1 hP1 hD1 hS1 (sd_ext_get hex1 hqm) hl.1 (Nat.le_of_ble_eq_true rfl) dl_922 ⟨Nat.le_of_ble_eq_true rfl, Nat.le_of_ble_eq_true rfl⟩ rfl (fun rv2 ws2 H2 locs2 hrv2 hW2 hP2 hD2 hS2 hex2 => ?_)
  refine lv_icmp_eq (tgt := 1187) hx hb dl_925 (by decide) (fun c1 => ?_) (fun c1 => absurd (Int32.toInt_inj.mp (hrv.trans hrv2.symm)) c1)
  exact kk M2 ws2 H2 locs2 hI hW2 hP2 hD2 hS2 (sd_ext_get hex2 (sd_ext_get hex1 hqx)) (sd_ext_get hex2 (sd_ext_get hex1 hqm))
set_option maxRecDepth 10000 in
theorem lc_pence {p : Program} {l : Launch} {e : Env} {s : State} {m : MethodId} {below : List Frame} {meth : Method} {c : Code} {b L : Nat} {xs : Nat → Int32} {D : va_G} {Q : State → Prop} (hL : L ≤ 3072) (C0 : lw_At p s m meth c b L xs) (hX : ∀ d j As E Ra, sd_X j As E Ra → sd_Snd l d j As E Ra) (hK : va_K D vwCl [] s) (hN : sd_NW s) (hSS : sd_SS (sd_LA s) s s.heap) {Inv : sd_M → Prop} (hs : sd_S2 Inv f_X9_pence f_X10_pence) {M : sd_M} (hM : Inv M) {ws : va_W} {H : Heap} {locs : List Loc} {ls : Array Slot} {qx qm i : Nat} {x3 : Int32} (hi : i + 6 ≤ L) (ex3 : x3 = nI i) (hW : sd_RW s (sd_rp M) ws) (hP : va_P D vwCl ws H) (hD : va_D (sd_LA s) ws) (hS : va_S (sd_LA s) s.heap H locs) (hqx : (ws.map (fun q => q.1))[0]? = some qx) (hqm : (ws.map (fun q => q.1))[331]? = some qm) (hl : lv_has ls 4 [(0, .ref b), (1, .ref qx), (2, .ref qm), (3, .int x3)])
    (kk : ∀ (M2 : sd_M) (ws2 : va_W) (H1 : Heap) (locs1 : List Loc), Inv M2 → sd_RW s (sd_rp M2) ws2 → va_P D vwCl ws2 H1 → va_D (sd_LA s) ws2 → va_S (sd_LA s) s.heap H1 locs1 → (ws2.map (fun q => q.1))[0]? = some qx → (ws2.map (fun q => q.1))[331]? = some qm → W p l e room_1 s m #[Value.ref b] below meth c H1 locs1 357 15544 Q (F0 m 1187 ls [])) : W p l e room_1 s m #[Value.ref b] below meth c H locs 357 15544 Q (F0 m 930 ls []) := by
  obtain ⟨hx, hb, hr, hml, hown, hts, hXs, hbl, hlocks, hgv⟩ := id C0
  have hbA : ¬ sd_LA s b := Nat.not_le.mpr hbl
  obtain ⟨r, M1, M2, e1, e2, hI⟩ := hs M hM _ _ (sd_rgi (xs (x3 + 1).toNatClampNeg)) (sd_rgi (xs (x3 + 2).toNatClampNeg))
  refine lv_aload_n hx hb dl_930 rfl (lv_at hl 1 rfl) ?_
  refine lv_aload_n hx hb dl_931 rfl (lv_at hl 0 rfl) ?_
  refine lv_iload_n hx hb dl_932 rfl (lv_at hl 3 rfl) ?_
  refine lv_iconst (v := 1) hx hb dl_933 (by decide) ?_
  refine lv_iadd hx hb dl_934 ?_
  refine va_sld hx hb hXs hbl hbA hS (sd_lin ex3 hi hL 1 (by decide)) dl_935 ?_
  refine lv_aload_n hx hb dl_936 rfl (lv_at hl 0 rfl) ?_
  refine lv_iload_n hx hb dl_937 rfl (lv_at hl 3 rfl) ?_
  refine lv_iconst (v := 2) hx hb dl_938 (by decide) ?_
  refine lv_iadd hx hb dl_939 ?_
  refine va_sld hx hb hXs hbl hbA hS (sd_lin ex3 hi hL 2 (by decide)) dl_940 ?_
  refine sd_lcall (M := M) (M2 := M1) (r := r) (a := 0) C0 hX hK hN hSS [xs (x3 + 1).toNatClampNeg, xs (x3 + 2).toNatClampNeg] sd_i_X9_pence (List.mem_of_getElem? (i := 1005) rfl) (List.mem_of_getElem? (i := 1006) rfl) (List.mem_of_getElem? (i := 1007) rfl) (List.mem_of_getElem? (i := 116) rfl) rfl sd_o_0 (m_X9_pence (by omega) e1) hW hP hD hS hqx hl.1 (Nat.le_of_ble_eq_true rfl) dl_941 ⟨Nat.le_of_ble_eq_true rfl, Nat.le_of_ble_eq_true rfl⟩ rfl (fun rv ws1 H1 locs1 hrv hW1 hP1 hD1 hS1 hex1 => ?_)
  refine lv_aload_n hx hb dl_944 rfl (lv_at hl 2 rfl) ?_
  refine lv_aload_n hx hb dl_945 rfl (lv_at hl 0 rfl) ?_
  refine lv_iload_n hx hb dl_946 rfl (lv_at hl 3 rfl) ?_
  refine lv_iconst (v := 1) hx hb dl_947 (by decide) ?_
  refine lv_iadd hx hb dl_948 ?_
  refine va_sld hx hb hXs hbl hbA hS1 (sd_lin ex3 hi hL 1 (by decide)) dl_949 ?_
  refine lv_aload_n hx hb dl_950 rfl (lv_at hl 0 rfl) ?_
  refine lv_iload_n hx hb dl_951 rfl (lv_at hl 3 rfl) ?_
  refine lv_iconst (v := 2) hx hb dl_952 (by decide) ?_
  refine lv_iadd hx hb dl_953 ?_
  refine va_sld hx hb hXs hbl hbA hS1 (sd_lin ex3 hi hL 2 (by decide)) dl_954 ?_
  refine sd_lcall (M := M1) (M2 := M2) (r := r) (a := 331) C0 hX hK hN hSS [xs (x3 + 1).toNatClampNeg, xs (x3 + 2).toNatClampNeg] sd_i_X10_pence (List.mem_of_getElem? (i := 1594) rfl) (List.mem_of_getElem? (i := 1595) rfl) (List.mem_of_getElem? (i := 1596) rfl) (List.mem_of_getElem? (i := 126) rfl) rfl sd_o_331 (m_X10_pence (by omega) e2) hW1 hP1 hD1 hS1 (sd_ext_get hex1 hqm) hl.1 (Nat.le_of_ble_eq_true rfl) dl_955 ⟨Nat.le_of_ble_eq_true rfl, Nat.le_of_ble_eq_true rfl⟩ rfl (fun rv2 ws2 H2 locs2 hrv2 hW2 hP2 hD2 hS2 hex2 => ?_)
  refine lv_icmp_eq (tgt := 1187) hx hb dl_958 (by decide) (fun c1 => ?_) (fun c1 => absurd (Int32.toInt_inj.mp (hrv.trans hrv2.symm)) c1)
  exact kk M2 ws2 H2 locs2 hI hW2 hP2 hD2 hS2 (sd_ext_get hex2 (sd_ext_get hex1 hqx)) (sd_ext_get hex2 (sd_ext_get hex1 hqm))
set_option maxRecDepth 10000 in
theorem lc_note {p : Program} {l : Launch} {e : Env} {s : State} {m : MethodId} {below : List Frame} {meth : Method} {c : Code} {b L : Nat} {xs : Nat → Int32} {D : va_G} {Q : State → Prop} (hL : L ≤ 3072) (C0 : lw_At p s m meth c b L xs) (hX : ∀ d j As E Ra, sd_X j As E Ra → sd_Snd l d j As E Ra) (hK : va_K D vwCl [] s) (hN : sd_NW s) (hSS : sd_SS (sd_LA s) s s.heap) {Inv : sd_M → Prop} (hs : sd_S2 Inv f_X9_note f_X10_note) {M : sd_M} (hM : Inv M) {ws : va_W} {H : Heap} {locs : List Loc} {ls : Array Slot} {qx qm i : Nat} {x3 : Int32} (hi : i + 6 ≤ L) (ex3 : x3 = nI i) (hW : sd_RW s (sd_rp M) ws) (hP : va_P D vwCl ws H) (hD : va_D (sd_LA s) ws) (hS : va_S (sd_LA s) s.heap H locs) (hqx : (ws.map (fun q => q.1))[0]? = some qx) (hqm : (ws.map (fun q => q.1))[331]? = some qm) (hl : lv_has ls 4 [(0, .ref b), (1, .ref qx), (2, .ref qm), (3, .int x3)])
    (kk : ∀ (M2 : sd_M) (ws2 : va_W) (H1 : Heap) (locs1 : List Loc), Inv M2 → sd_RW s (sd_rp M2) ws2 → va_P D vwCl ws2 H1 → va_D (sd_LA s) ws2 → va_S (sd_LA s) s.heap H1 locs1 → (ws2.map (fun q => q.1))[0]? = some qx → (ws2.map (fun q => q.1))[331]? = some qm → W p l e room_1 s m #[Value.ref b] below meth c H1 locs1 357 15544 Q (F0 m 1187 ls [])) : W p l e room_1 s m #[Value.ref b] below meth c H locs 357 15544 Q (F0 m 963 ls []) := by
  obtain ⟨hx, hb, hr, hml, hown, hts, hXs, hbl, hlocks, hgv⟩ := id C0
  have hbA : ¬ sd_LA s b := Nat.not_le.mpr hbl
  obtain ⟨r, M1, M2, e1, e2, hI⟩ := hs M hM _ _ (sd_rgi (xs (x3 + 1).toNatClampNeg)) (sd_rgi (xs (x3 + 2).toNatClampNeg))
  refine lv_aload_n hx hb dl_963 rfl (lv_at hl 1 rfl) ?_
  refine lv_aload_n hx hb dl_964 rfl (lv_at hl 0 rfl) ?_
  refine lv_iload_n hx hb dl_965 rfl (lv_at hl 3 rfl) ?_
  refine lv_iconst (v := 1) hx hb dl_966 (by decide) ?_
  refine lv_iadd hx hb dl_967 ?_
  refine va_sld hx hb hXs hbl hbA hS (sd_lin ex3 hi hL 1 (by decide)) dl_968 ?_
  refine lv_aload_n hx hb dl_969 rfl (lv_at hl 0 rfl) ?_
  refine lv_iload_n hx hb dl_970 rfl (lv_at hl 3 rfl) ?_
  refine lv_iconst (v := 2) hx hb dl_971 (by decide) ?_
  refine lv_iadd hx hb dl_972 ?_
  refine va_sld hx hb hXs hbl hbA hS (sd_lin ex3 hi hL 2 (by decide)) dl_973 ?_
  refine sd_lcall (M := M) (M2 := M1) (r := r) (a := 0) C0 hX hK hN hSS [xs (x3 + 1).toNatClampNeg, xs (x3 + 2).toNatClampNeg] sd_i_X9_note (List.mem_of_getElem? (i := 947) rfl) (List.mem_of_getElem? (i := 948) rfl) (List.mem_of_getElem? (i := 949) rfl) (List.mem_of_getElem? (i := 116) rfl) rfl sd_o_0 (m_X9_note (by omega) e1) hW hP hD hS hqx hl.1 (Nat.le_of_ble_eq_true rfl) dl_974 ⟨Nat.le_of_ble_eq_true rfl, Nat.le_of_ble_eq_true rfl⟩ rfl (fun rv ws1 H1 locs1 hrv hW1 hP1 hD1 hS1 hex1 => ?_)
  refine lv_aload_n hx hb dl_977 rfl (lv_at hl 2 rfl) ?_
  refine lv_aload_n hx hb dl_978 rfl (lv_at hl 0 rfl) ?_
  refine lv_iload_n hx hb dl_979 rfl (lv_at hl 3 rfl) ?_
  refine lv_iconst (v := 1) hx hb dl_980 (by decide) ?_
  refine lv_iadd hx hb dl_981 ?_
  refine va_sld hx hb hXs hbl hbA hS1 (sd_lin ex3 hi hL 1 (by decide)) dl_982 ?_
  refine lv_aload_n hx hb dl_983 rfl (lv_at hl 0 rfl) ?_
  refine lv_iload_n hx hb dl_984 rfl (lv_at hl 3 rfl) ?_
  refine lv_iconst (v := 2) hx hb dl_985 (by decide) ?_
  refine lv_iadd hx hb dl_986 ?_
  refine va_sld hx hb hXs hbl hbA hS1 (sd_lin ex3 hi hL 2 (by decide)) dl_987 ?_
  refine sd_lcall (M := M1) (M2 := M2) (r := r) (a := 331) C0 hX hK hN hSS [xs (x3 + 1).toNatClampNeg, xs (x3 + 2).toNatClampNeg] sd_i_X10_note (List.mem_of_getElem? (i := 1598) rfl) (List.mem_of_getElem? (i := 1599) rfl) (List.mem_of_getElem? (i := 1600) rfl) (List.mem_of_getElem? (i := 126) rfl) rfl sd_o_331 (m_X10_note (by omega) e2) hW1 hP1 hD1 hS1 (sd_ext_get hex1 hqm) hl.1 (Nat.le_of_ble_eq_true rfl) dl_988 ⟨Nat.le_of_ble_eq_true rfl, Nat.le_of_ble_eq_true rfl⟩ rfl (fun rv2 ws2 H2 locs2 hrv2 hW2 hP2 hD2 hS2 hex2 => ?_)
  refine lv_icmp_eq (tgt := 1187) hx hb dl_991 (by decide) (fun c1 => ?_) (fun c1 => absurd (Int32.toInt_inj.mp (hrv.trans hrv2.symm)) c1)
  exact kk M2 ws2 H2 locs2 hI hW2 hP2 hD2 hS2 (sd_ext_get hex2 (sd_ext_get hex1 hqx)) (sd_ext_get hex2 (sd_ext_get hex1 hqm))
set_option maxRecDepth 10000 in
theorem lc_ruled {p : Program} {l : Launch} {e : Env} {s : State} {m : MethodId} {below : List Frame} {meth : Method} {c : Code} {b L : Nat} {xs : Nat → Int32} {D : va_G} {Q : State → Prop} (hL : L ≤ 3072) (C0 : lw_At p s m meth c b L xs) (hX : ∀ d j As E Ra, sd_X j As E Ra → sd_Snd l d j As E Ra) (hK : va_K D vwCl [] s) (hN : sd_NW s) (hSS : sd_SS (sd_LA s) s s.heap) {Inv : sd_M → Prop} (hs : sd_S1 Inv f_X9_ruled f_X10_ruled) {M : sd_M} (hM : Inv M) {ws : va_W} {H : Heap} {locs : List Loc} {ls : Array Slot} {qx qm i : Nat} {x3 : Int32} (hi : i + 6 ≤ L) (ex3 : x3 = nI i) (hW : sd_RW s (sd_rp M) ws) (hP : va_P D vwCl ws H) (hD : va_D (sd_LA s) ws) (hS : va_S (sd_LA s) s.heap H locs) (hqx : (ws.map (fun q => q.1))[0]? = some qx) (hqm : (ws.map (fun q => q.1))[331]? = some qm) (hl : lv_has ls 4 [(0, .ref b), (1, .ref qx), (2, .ref qm), (3, .int x3)])
    (kk : ∀ (M2 : sd_M) (ws2 : va_W) (H1 : Heap) (locs1 : List Loc), Inv M2 → sd_RW s (sd_rp M2) ws2 → va_P D vwCl ws2 H1 → va_D (sd_LA s) ws2 → va_S (sd_LA s) s.heap H1 locs1 → (ws2.map (fun q => q.1))[0]? = some qx → (ws2.map (fun q => q.1))[331]? = some qm → W p l e room_1 s m #[Value.ref b] below meth c H1 locs1 357 15544 Q (F0 m 1187 ls [])) : W p l e room_1 s m #[Value.ref b] below meth c H locs 357 15544 Q (F0 m 996 ls []) := by
  obtain ⟨hx, hb, hr, hml, hown, hts, hXs, hbl, hlocks, hgv⟩ := id C0
  have hbA : ¬ sd_LA s b := Nat.not_le.mpr hbl
  obtain ⟨r, M1, M2, e1, e2, hI⟩ := hs M hM _ (sd_rgi (xs (x3 + 1).toNatClampNeg))
  refine lv_aload_n hx hb dl_996 rfl (lv_at hl 1 rfl) ?_
  refine lv_aload_n hx hb dl_997 rfl (lv_at hl 0 rfl) ?_
  refine lv_iload_n hx hb dl_998 rfl (lv_at hl 3 rfl) ?_
  refine lv_iconst (v := 1) hx hb dl_999 (by decide) ?_
  refine lv_iadd hx hb dl_1000 ?_
  refine va_sld hx hb hXs hbl hbA hS (sd_lin ex3 hi hL 1 (by decide)) dl_1001 ?_
  refine sd_lcall (M := M) (M2 := M1) (r := r) (a := 0) C0 hX hK hN hSS [xs (x3 + 1).toNatClampNeg] sd_i_X9_ruled (List.mem_of_getElem? (i := 976) rfl) (List.mem_of_getElem? (i := 977) rfl) (List.mem_of_getElem? (i := 978) rfl) (List.mem_of_getElem? (i := 116) rfl) rfl sd_o_0 (m_X9_ruled (by omega) e1) hW hP hD hS hqx hl.1 (Nat.le_of_ble_eq_true rfl) dl_1002 ⟨Nat.le_of_ble_eq_true rfl, Nat.le_of_ble_eq_true rfl⟩ rfl (fun rv ws1 H1 locs1 hrv hW1 hP1 hD1 hS1 hex1 => ?_)
  refine lv_aload_n hx hb dl_1005 rfl (lv_at hl 2 rfl) ?_
  refine lv_aload_n hx hb dl_1006 rfl (lv_at hl 0 rfl) ?_
  refine lv_iload_n hx hb dl_1007 rfl (lv_at hl 3 rfl) ?_
  refine lv_iconst (v := 1) hx hb dl_1008 (by decide) ?_
  refine lv_iadd hx hb dl_1009 ?_
  refine va_sld hx hb hXs hbl hbA hS1 (sd_lin ex3 hi hL 1 (by decide)) dl_1010 ?_
  refine sd_lcall (M := M1) (M2 := M2) (r := r) (a := 331) C0 hX hK hN hSS [xs (x3 + 1).toNatClampNeg] sd_i_X10_ruled (List.mem_of_getElem? (i := 1603) rfl) (List.mem_of_getElem? (i := 1604) rfl) (List.mem_of_getElem? (i := 1605) rfl) (List.mem_of_getElem? (i := 126) rfl) rfl sd_o_331 (m_X10_ruled (by omega) e2) hW1 hP1 hD1 hS1 (sd_ext_get hex1 hqm) hl.1 (Nat.le_of_ble_eq_true rfl) dl_1011 ⟨Nat.le_of_ble_eq_true rfl, Nat.le_of_ble_eq_true rfl⟩ rfl (fun rv2 ws2 H2 locs2 hrv2 hW2 hP2 hD2 hS2 hex2 => ?_)
  refine lv_icmp_eq (tgt := 1187) hx hb dl_1014 (by decide) (fun c1 => ?_) (fun c1 => absurd (Int32.toInt_inj.mp (hrv.trans hrv2.symm)) c1)
  exact kk M2 ws2 H2 locs2 hI hW2 hP2 hD2 hS2 (sd_ext_get hex2 (sd_ext_get hex1 hqx)) (sd_ext_get hex2 (sd_ext_get hex1 hqm))
set_option maxRecDepth 10000 in
theorem lc_look {p : Program} {l : Launch} {e : Env} {s : State} {m : MethodId} {below : List Frame} {meth : Method} {c : Code} {b L : Nat} {xs : Nat → Int32} {D : va_G} {Q : State → Prop} (hL : L ≤ 3072) (C0 : lw_At p s m meth c b L xs) (hX : ∀ d j As E Ra, sd_X j As E Ra → sd_Snd l d j As E Ra) (hK : va_K D vwCl [] s) (hN : sd_NW s) (hSS : sd_SS (sd_LA s) s s.heap) {Inv : sd_M → Prop} (hs : sd_S1 Inv f_X9_look f_X10_look) {M : sd_M} (hM : Inv M) {ws : va_W} {H : Heap} {locs : List Loc} {ls : Array Slot} {qx qm i : Nat} {x3 : Int32} (hi : i + 6 ≤ L) (ex3 : x3 = nI i) (hW : sd_RW s (sd_rp M) ws) (hP : va_P D vwCl ws H) (hD : va_D (sd_LA s) ws) (hS : va_S (sd_LA s) s.heap H locs) (hqx : (ws.map (fun q => q.1))[0]? = some qx) (hqm : (ws.map (fun q => q.1))[331]? = some qm) (hl : lv_has ls 4 [(0, .ref b), (1, .ref qx), (2, .ref qm), (3, .int x3)])
    (kk : ∀ (M2 : sd_M) (ws2 : va_W) (H1 : Heap) (locs1 : List Loc), Inv M2 → sd_RW s (sd_rp M2) ws2 → va_P D vwCl ws2 H1 → va_D (sd_LA s) ws2 → va_S (sd_LA s) s.heap H1 locs1 → (ws2.map (fun q => q.1))[0]? = some qx → (ws2.map (fun q => q.1))[331]? = some qm → W p l e room_1 s m #[Value.ref b] below meth c H1 locs1 357 15544 Q (F0 m 1187 ls [])) : W p l e room_1 s m #[Value.ref b] below meth c H locs 357 15544 Q (F0 m 1019 ls []) := by
  obtain ⟨hx, hb, hr, hml, hown, hts, hXs, hbl, hlocks, hgv⟩ := id C0
  have hbA : ¬ sd_LA s b := Nat.not_le.mpr hbl
  obtain ⟨r, M1, M2, e1, e2, hI⟩ := hs M hM _ (sd_rgi (xs (x3 + 1).toNatClampNeg))
  refine lv_aload_n hx hb dl_1019 rfl (lv_at hl 1 rfl) ?_
  refine lv_aload_n hx hb dl_1020 rfl (lv_at hl 0 rfl) ?_
  refine lv_iload_n hx hb dl_1021 rfl (lv_at hl 3 rfl) ?_
  refine lv_iconst (v := 1) hx hb dl_1022 (by decide) ?_
  refine lv_iadd hx hb dl_1023 ?_
  refine va_sld hx hb hXs hbl hbA hS (sd_lin ex3 hi hL 1 (by decide)) dl_1024 ?_
  refine sd_lcall (M := M) (M2 := M1) (r := r) (a := 0) C0 hX hK hN hSS [xs (x3 + 1).toNatClampNeg] sd_i_X9_look (List.mem_of_getElem? (i := 980) rfl) (List.mem_of_getElem? (i := 981) rfl) (List.mem_of_getElem? (i := 982) rfl) (List.mem_of_getElem? (i := 116) rfl) rfl sd_o_0 (m_X9_look (by omega) e1) hW hP hD hS hqx hl.1 (Nat.le_of_ble_eq_true rfl) dl_1025 ⟨Nat.le_of_ble_eq_true rfl, Nat.le_of_ble_eq_true rfl⟩ rfl (fun rv ws1 H1 locs1 hrv hW1 hP1 hD1 hS1 hex1 => ?_)
  refine lv_aload_n hx hb dl_1028 rfl (lv_at hl 2 rfl) ?_
  refine lv_aload_n hx hb dl_1029 rfl (lv_at hl 0 rfl) ?_
  refine lv_iload_n hx hb dl_1030 rfl (lv_at hl 3 rfl) ?_
  refine lv_iconst (v := 1) hx hb dl_1031 (by decide) ?_
  refine lv_iadd hx hb dl_1032 ?_
  refine va_sld hx hb hXs hbl hbA hS1 (sd_lin ex3 hi hL 1 (by decide)) dl_1033 ?_
  refine sd_lcall (M := M1) (M2 := M2) (r := r) (a := 331) C0 hX hK hN hSS [xs (x3 + 1).toNatClampNeg] sd_i_X10_look (List.mem_of_getElem? (i := 1619) rfl) (List.mem_of_getElem? (i := 1620) rfl) (List.mem_of_getElem? (i := 1621) rfl) (List.mem_of_getElem? (i := 126) rfl) rfl sd_o_331 (m_X10_look (by omega) e2) hW1 hP1 hD1 hS1 (sd_ext_get hex1 hqm) hl.1 (Nat.le_of_ble_eq_true rfl) dl_1034 ⟨Nat.le_of_ble_eq_true rfl, Nat.le_of_ble_eq_true rfl⟩ rfl (fun rv2 ws2 H2 locs2 hrv2 hW2 hP2 hD2 hS2 hex2 => ?_)
  refine lv_icmp_eq (tgt := 1187) hx hb dl_1037 (by decide) (fun c1 => ?_) (fun c1 => absurd (Int32.toInt_inj.mp (hrv.trans hrv2.symm)) c1)
  exact kk M2 ws2 H2 locs2 hI hW2 hP2 hD2 hS2 (sd_ext_get hex2 (sd_ext_get hex1 hqx)) (sd_ext_get hex2 (sd_ext_get hex1 hqm))
set_option maxRecDepth 10000 in
theorem lc_seed {p : Program} {l : Launch} {e : Env} {s : State} {m : MethodId} {below : List Frame} {meth : Method} {c : Code} {b L : Nat} {xs : Nat → Int32} {D : va_G} {Q : State → Prop} (hL : L ≤ 3072) (C0 : lw_At p s m meth c b L xs) (hX : ∀ d j As E Ra, sd_X j As E Ra → sd_Snd l d j As E Ra) (hK : va_K D vwCl [] s) (hN : sd_NW s) (hSS : sd_SS (sd_LA s) s s.heap) {Inv : sd_M → Prop} (hs : sd_S1 Inv f_X9_seed f_X10_seed) {M : sd_M} (hM : Inv M) {ws : va_W} {H : Heap} {locs : List Loc} {ls : Array Slot} {qx qm i : Nat} {x3 : Int32} (hi : i + 6 ≤ L) (ex3 : x3 = nI i) (hW : sd_RW s (sd_rp M) ws) (hP : va_P D vwCl ws H) (hD : va_D (sd_LA s) ws) (hS : va_S (sd_LA s) s.heap H locs) (hqx : (ws.map (fun q => q.1))[0]? = some qx) (hqm : (ws.map (fun q => q.1))[331]? = some qm) (hl : lv_has ls 4 [(0, .ref b), (1, .ref qx), (2, .ref qm), (3, .int x3)])
    (kk : ∀ (M2 : sd_M) (ws2 : va_W) (H1 : Heap) (locs1 : List Loc), Inv M2 → sd_RW s (sd_rp M2) ws2 → va_P D vwCl ws2 H1 → va_D (sd_LA s) ws2 → va_S (sd_LA s) s.heap H1 locs1 → (ws2.map (fun q => q.1))[0]? = some qx → (ws2.map (fun q => q.1))[331]? = some qm → W p l e room_1 s m #[Value.ref b] below meth c H1 locs1 357 15544 Q (F0 m 1187 ls [])) : W p l e room_1 s m #[Value.ref b] below meth c H locs 357 15544 Q (F0 m 1042 ls []) := by
  obtain ⟨hx, hb, hr, hml, hown, hts, hXs, hbl, hlocks, hgv⟩ := id C0
  have hbA : ¬ sd_LA s b := Nat.not_le.mpr hbl
  obtain ⟨r, M1, M2, e1, e2, hI⟩ := hs M hM _ (sd_rgi (xs (x3 + 1).toNatClampNeg))
  refine lv_aload_n hx hb dl_1042 rfl (lv_at hl 1 rfl) ?_
  refine lv_aload_n hx hb dl_1043 rfl (lv_at hl 0 rfl) ?_
  refine lv_iload_n hx hb dl_1044 rfl (lv_at hl 3 rfl) ?_
  refine lv_iconst (v := 1) hx hb dl_1045 (by decide) ?_
  refine lv_iadd hx hb dl_1046 ?_
  refine va_sld hx hb hXs hbl hbA hS (sd_lin ex3 hi hL 1 (by decide)) dl_1047 ?_
  refine sd_lcall (M := M) (M2 := M1) (r := r) (a := 0) C0 hX hK hN hSS [xs (x3 + 1).toNatClampNeg] sd_i_X9_seed (List.mem_of_getElem? (i := 943) rfl) (List.mem_of_getElem? (i := 944) rfl) (List.mem_of_getElem? (i := 945) rfl) (List.mem_of_getElem? (i := 116) rfl) rfl sd_o_0 (m_X9_seed (by omega) e1) hW hP hD hS hqx hl.1 (Nat.le_of_ble_eq_true rfl) dl_1048 ⟨Nat.le_of_ble_eq_true rfl, Nat.le_of_ble_eq_true rfl⟩ rfl (fun rv ws1 H1 locs1 hrv hW1 hP1 hD1 hS1 hex1 => ?_)
  refine lv_aload_n hx hb dl_1051 rfl (lv_at hl 2 rfl) ?_
  refine lv_aload_n hx hb dl_1052 rfl (lv_at hl 0 rfl) ?_
  refine lv_iload_n hx hb dl_1053 rfl (lv_at hl 3 rfl) ?_
  refine lv_iconst (v := 1) hx hb dl_1054 (by decide) ?_
  refine lv_iadd hx hb dl_1055 ?_
  refine va_sld hx hb hXs hbl hbA hS1 (sd_lin ex3 hi hL 1 (by decide)) dl_1056 ?_
  refine sd_lcall (M := M1) (M2 := M2) (r := r) (a := 331) C0 hX hK hN hSS [xs (x3 + 1).toNatClampNeg] sd_i_X10_seed (List.mem_of_getElem? (i := 1635) rfl) (List.mem_of_getElem? (i := 1636) rfl) (List.mem_of_getElem? (i := 1637) rfl) (List.mem_of_getElem? (i := 126) rfl) rfl sd_o_331 (m_X10_seed (by omega) e2) hW1 hP1 hD1 hS1 (sd_ext_get hex1 hqm) hl.1 (Nat.le_of_ble_eq_true rfl) dl_1057 ⟨Nat.le_of_ble_eq_true rfl, Nat.le_of_ble_eq_true rfl⟩ rfl (fun rv2 ws2 H2 locs2 hrv2 hW2 hP2 hD2 hS2 hex2 => ?_)
  refine lv_icmp_eq (tgt := 1187) hx hb dl_1060 (by decide) (fun c1 => ?_) (fun c1 => absurd (Int32.toInt_inj.mp (hrv.trans hrv2.symm)) c1)
  exact kk M2 ws2 H2 locs2 hI hW2 hP2 hD2 hS2 (sd_ext_get hex2 (sd_ext_get hex1 hqx)) (sd_ext_get hex2 (sd_ext_get hex1 hqm))
set_option maxRecDepth 10000 in
theorem lc_seasons {p : Program} {l : Launch} {e : Env} {s : State} {m : MethodId} {below : List Frame} {meth : Method} {c : Code} {b L : Nat} {xs : Nat → Int32} {D : va_G} {Q : State → Prop} (hL : L ≤ 3072) (C0 : lw_At p s m meth c b L xs) (hX : ∀ d j As E Ra, sd_X j As E Ra → sd_Snd l d j As E Ra) (hK : va_K D vwCl [] s) (hN : sd_NW s) (hSS : sd_SS (sd_LA s) s s.heap) {Inv : sd_M → Prop} (hs : sd_S4 Inv f_X9_seasons f_X10_seasons) {M : sd_M} (hM : Inv M) {ws : va_W} {H : Heap} {locs : List Loc} {ls : Array Slot} {qx qm i : Nat} {x3 : Int32} (hi : i + 6 ≤ L) (ex3 : x3 = nI i) (hW : sd_RW s (sd_rp M) ws) (hP : va_P D vwCl ws H) (hD : va_D (sd_LA s) ws) (hS : va_S (sd_LA s) s.heap H locs) (hqx : (ws.map (fun q => q.1))[0]? = some qx) (hqm : (ws.map (fun q => q.1))[331]? = some qm) (hl : lv_has ls 4 [(0, .ref b), (1, .ref qx), (2, .ref qm), (3, .int x3)])
    (kk : ∀ (M2 : sd_M) (ws2 : va_W) (H1 : Heap) (locs1 : List Loc), Inv M2 → sd_RW s (sd_rp M2) ws2 → va_P D vwCl ws2 H1 → va_D (sd_LA s) ws2 → va_S (sd_LA s) s.heap H1 locs1 → (ws2.map (fun q => q.1))[0]? = some qx → (ws2.map (fun q => q.1))[331]? = some qm → W p l e room_1 s m #[Value.ref b] below meth c H1 locs1 357 15544 Q (F0 m 1187 ls [])) : W p l e room_1 s m #[Value.ref b] below meth c H locs 357 15544 Q (F0 m 1065 ls []) := by
  obtain ⟨hx, hb, hr, hml, hown, hts, hXs, hbl, hlocks, hgv⟩ := id C0
  have hbA : ¬ sd_LA s b := Nat.not_le.mpr hbl
  obtain ⟨r, M1, M2, e1, e2, hI⟩ := hs M hM _ _ _ _ (sd_rgi (xs (x3 + 1).toNatClampNeg)) (sd_rgi (xs (x3 + 2).toNatClampNeg)) (sd_rgi (xs (x3 + 3).toNatClampNeg)) (sd_rgi (xs (x3 + 4).toNatClampNeg))
  refine lv_aload_n hx hb dl_1065 rfl (lv_at hl 1 rfl) ?_
  refine lv_aload_n hx hb dl_1066 rfl (lv_at hl 0 rfl) ?_
  refine lv_iload_n hx hb dl_1067 rfl (lv_at hl 3 rfl) ?_
  refine lv_iconst (v := 1) hx hb dl_1068 (by decide) ?_
  refine lv_iadd hx hb dl_1069 ?_
  refine va_sld hx hb hXs hbl hbA hS (sd_lin ex3 hi hL 1 (by decide)) dl_1070 ?_
  refine lv_aload_n hx hb dl_1071 rfl (lv_at hl 0 rfl) ?_
  refine lv_iload_n hx hb dl_1072 rfl (lv_at hl 3 rfl) ?_
  refine lv_iconst (v := 2) hx hb dl_1073 (by decide) ?_
  refine lv_iadd hx hb dl_1074 ?_
  refine va_sld hx hb hXs hbl hbA hS (sd_lin ex3 hi hL 2 (by decide)) dl_1075 ?_
  refine lv_aload_n hx hb dl_1076 rfl (lv_at hl 0 rfl) ?_
  refine lv_iload_n hx hb dl_1077 rfl (lv_at hl 3 rfl) ?_
  refine lv_iconst (v := 3) hx hb dl_1078 (by decide) ?_
  refine lv_iadd hx hb dl_1079 ?_
  refine va_sld hx hb hXs hbl hbA hS (sd_lin ex3 hi hL 3 (by decide)) dl_1080 ?_
  refine lv_aload_n hx hb dl_1081 rfl (lv_at hl 0 rfl) ?_
  refine lv_iload_n hx hb dl_1082 rfl (lv_at hl 3 rfl) ?_
  refine lv_iconst (v := 4) hx hb dl_1083 (by decide) ?_
  refine lv_iadd hx hb dl_1084 ?_
  refine va_sld hx hb hXs hbl hbA hS (sd_lin ex3 hi hL 4 (by decide)) dl_1085 ?_
  refine sd_lcall (M := M) (M2 := M1) (r := r) (a := 0) C0 hX hK hN hSS [xs (x3 + 1).toNatClampNeg, xs (x3 + 2).toNatClampNeg, xs (x3 + 3).toNatClampNeg, xs (x3 + 4).toNatClampNeg] sd_i_X9_seasons (List.mem_of_getElem? (i := 927) rfl) (List.mem_of_getElem? (i := 928) rfl) (List.mem_of_getElem? (i := 929) rfl) (List.mem_of_getElem? (i := 116) rfl) rfl sd_o_0 (m_X9_seasons (by omega) e1) hW hP hD hS hqx hl.1 (Nat.le_of_ble_eq_true rfl) dl_1086 ⟨Nat.le_of_ble_eq_true rfl, Nat.le_of_ble_eq_true rfl⟩ rfl (fun rv ws1 H1 locs1 hrv hW1 hP1 hD1 hS1 hex1 => ?_)
  refine lv_aload_n hx hb dl_1089 rfl (lv_at hl 2 rfl) ?_
  refine lv_aload_n hx hb dl_1090 rfl (lv_at hl 0 rfl) ?_
  refine lv_iload_n hx hb dl_1091 rfl (lv_at hl 3 rfl) ?_
  refine lv_iconst (v := 1) hx hb dl_1092 (by decide) ?_
  refine lv_iadd hx hb dl_1093 ?_
  refine va_sld hx hb hXs hbl hbA hS1 (sd_lin ex3 hi hL 1 (by decide)) dl_1094 ?_
  refine lv_aload_n hx hb dl_1095 rfl (lv_at hl 0 rfl) ?_
  refine lv_iload_n hx hb dl_1096 rfl (lv_at hl 3 rfl) ?_
  refine lv_iconst (v := 2) hx hb dl_1097 (by decide) ?_
  refine lv_iadd hx hb dl_1098 ?_
  refine va_sld hx hb hXs hbl hbA hS1 (sd_lin ex3 hi hL 2 (by decide)) dl_1099 ?_
  refine lv_aload_n hx hb dl_1100 rfl (lv_at hl 0 rfl) ?_
  refine lv_iload_n hx hb dl_1101 rfl (lv_at hl 3 rfl) ?_
  refine lv_iconst (v := 3) hx hb dl_1102 (by decide) ?_
  refine lv_iadd hx hb dl_1103 ?_
  refine va_sld hx hb hXs hbl hbA hS1 (sd_lin ex3 hi hL 3 (by decide)) dl_1104 ?_
  refine lv_aload_n hx hb dl_1105 rfl (lv_at hl 0 rfl) ?_
  refine lv_iload_n hx hb dl_1106 rfl (lv_at hl 3 rfl) ?_
  refine lv_iconst (v := 4) hx hb dl_1107 (by decide) ?_
  refine lv_iadd hx hb dl_1108 ?_
  refine va_sld hx hb hXs hbl hbA hS1 (sd_lin ex3 hi hL 4 (by decide)) dl_1109 ?_
  refine sd_lcall (M := M1) (M2 := M2) (r := r) (a := 331) C0 hX hK hN hSS [xs (x3 + 1).toNatClampNeg, xs (x3 + 2).toNatClampNeg, xs (x3 + 3).toNatClampNeg, xs (x3 + 4).toNatClampNeg] sd_i_X10_seasons (List.mem_of_getElem? (i := 1639) rfl) (List.mem_of_getElem? (i := 1640) rfl) (List.mem_of_getElem? (i := 1641) rfl) (List.mem_of_getElem? (i := 126) rfl) rfl sd_o_331 (m_X10_seasons (by omega) e2) hW1 hP1 hD1 hS1 (sd_ext_get hex1 hqm) hl.1 (Nat.le_of_ble_eq_true rfl) dl_1110 ⟨Nat.le_of_ble_eq_true rfl, Nat.le_of_ble_eq_true rfl⟩ rfl (fun rv2 ws2 H2 locs2 hrv2 hW2 hP2 hD2 hS2 hex2 => ?_)
  refine lv_icmp_eq (tgt := 1187) hx hb dl_1113 (by decide) (fun c1 => ?_) (fun c1 => absurd (Int32.toInt_inj.mp (hrv.trans hrv2.symm)) c1)
  exact kk M2 ws2 H2 locs2 hI hW2 hP2 hD2 hS2 (sd_ext_get hex2 (sd_ext_get hex1 hqx)) (sd_ext_get hex2 (sd_ext_get hex1 hqm))
set_option maxRecDepth 10000 in
theorem lc_count {p : Program} {l : Launch} {e : Env} {s : State} {m : MethodId} {below : List Frame} {meth : Method} {c : Code} {b L : Nat} {xs : Nat → Int32} {D : va_G} {Q : State → Prop} (hL : L ≤ 3072) (C0 : lw_At p s m meth c b L xs) (hX : ∀ d j As E Ra, sd_X j As E Ra → sd_Snd l d j As E Ra) (hK : va_K D vwCl [] s) (hN : sd_NW s) (hSS : sd_SS (sd_LA s) s s.heap) {Inv : sd_M → Prop} (hs : sd_S1 Inv f_X9_count f_X10_count) {M : sd_M} (hM : Inv M) {ws : va_W} {H : Heap} {locs : List Loc} {ls : Array Slot} {qx qm i : Nat} {x3 : Int32} (hi : i + 6 ≤ L) (ex3 : x3 = nI i) (hW : sd_RW s (sd_rp M) ws) (hP : va_P D vwCl ws H) (hD : va_D (sd_LA s) ws) (hS : va_S (sd_LA s) s.heap H locs) (hqx : (ws.map (fun q => q.1))[0]? = some qx) (hqm : (ws.map (fun q => q.1))[331]? = some qm) (hl : lv_has ls 4 [(0, .ref b), (1, .ref qx), (2, .ref qm), (3, .int x3)])
    (kk : ∀ (M2 : sd_M) (ws2 : va_W) (H1 : Heap) (locs1 : List Loc), Inv M2 → sd_RW s (sd_rp M2) ws2 → va_P D vwCl ws2 H1 → va_D (sd_LA s) ws2 → va_S (sd_LA s) s.heap H1 locs1 → (ws2.map (fun q => q.1))[0]? = some qx → (ws2.map (fun q => q.1))[331]? = some qm → W p l e room_1 s m #[Value.ref b] below meth c H1 locs1 357 15544 Q (F0 m 1187 ls [])) : W p l e room_1 s m #[Value.ref b] below meth c H locs 357 15544 Q (F0 m 1118 ls []) := by
  obtain ⟨hx, hb, hr, hml, hown, hts, hXs, hbl, hlocks, hgv⟩ := id C0
  have hbA : ¬ sd_LA s b := Nat.not_le.mpr hbl
  obtain ⟨r, M1, M2, e1, e2, hI⟩ := hs M hM _ (sd_rgi (xs (x3 + 1).toNatClampNeg))
  refine lv_aload_n hx hb dl_1118 rfl (lv_at hl 1 rfl) ?_
  refine lv_aload_n hx hb dl_1119 rfl (lv_at hl 0 rfl) ?_
  refine lv_iload_n hx hb dl_1120 rfl (lv_at hl 3 rfl) ?_
  refine lv_iconst (v := 1) hx hb dl_1121 (by decide) ?_
  refine lv_iadd hx hb dl_1122 ?_
  refine va_sld hx hb hXs hbl hbA hS (sd_lin ex3 hi hL 1 (by decide)) dl_1123 ?_
  refine sd_lcall (M := M) (M2 := M1) (r := r) (a := 0) C0 hX hK hN hSS [xs (x3 + 1).toNatClampNeg] sd_i_X9_count (List.mem_of_getElem? (i := 713) rfl) (List.mem_of_getElem? (i := 714) rfl) (List.mem_of_getElem? (i := 715) rfl) (List.mem_of_getElem? (i := 116) rfl) rfl sd_o_0 (m_X9_count (by omega) e1) hW hP hD hS hqx hl.1 (Nat.le_of_ble_eq_true rfl) dl_1124 ⟨Nat.le_of_ble_eq_true rfl, Nat.le_of_ble_eq_true rfl⟩ rfl (fun rv ws1 H1 locs1 hrv hW1 hP1 hD1 hS1 hex1 => ?_)
  refine lv_aload_n hx hb dl_1127 rfl (lv_at hl 2 rfl) ?_
  refine lv_aload_n hx hb dl_1128 rfl (lv_at hl 0 rfl) ?_
  refine lv_iload_n hx hb dl_1129 rfl (lv_at hl 3 rfl) ?_
  refine lv_iconst (v := 1) hx hb dl_1130 (by decide) ?_
  refine lv_iadd hx hb dl_1131 ?_
  refine va_sld hx hb hXs hbl hbA hS1 (sd_lin ex3 hi hL 1 (by decide)) dl_1132 ?_
  refine sd_lcall (M := M1) (M2 := M2) (r := r) (a := 331) C0 hX hK hN hSS [xs (x3 + 1).toNatClampNeg] sd_i_X10_count (List.mem_of_getElem? (i := 1657) rfl) (List.mem_of_getElem? (i := 1658) rfl) (List.mem_of_getElem? (i := 1659) rfl) (List.mem_of_getElem? (i := 126) rfl) rfl sd_o_331 (m_X10_count (by omega) e2) hW1 hP1 hD1 hS1 (sd_ext_get hex1 hqm) hl.1 (Nat.le_of_ble_eq_true rfl) dl_1133 ⟨Nat.le_of_ble_eq_true rfl, Nat.le_of_ble_eq_true rfl⟩ rfl (fun rv2 ws2 H2 locs2 hrv2 hW2 hP2 hD2 hS2 hex2 => ?_)
  refine lv_icmp_eq (tgt := 1187) hx hb dl_1136 (by decide) (fun c1 => ?_) (fun c1 => absurd (Int32.toInt_inj.mp (hrv.trans hrv2.symm)) c1)
  exact kk M2 ws2 H2 locs2 hI hW2 hP2 hD2 hS2 (sd_ext_get hex2 (sd_ext_get hex1 hqx)) (sd_ext_get hex2 (sd_ext_get hex1 hqm))
set_option maxRecDepth 10000 in
theorem lc_image {p : Program} {l : Launch} {e : Env} {s : State} {m : MethodId} {below : List Frame} {meth : Method} {c : Code} {b L : Nat} {xs : Nat → Int32} {D : va_G} {Q : State → Prop} (hL : L ≤ 3072) (C0 : lw_At p s m meth c b L xs) (hX : ∀ d j As E Ra, sd_X j As E Ra → sd_Snd l d j As E Ra) (hK : va_K D vwCl [] s) (hN : sd_NW s) (hSS : sd_SS (sd_LA s) s s.heap) {Inv : sd_M → Prop} (hs : sd_S1 Inv f_X9_image f_X10_image) {M : sd_M} (hM : Inv M) {ws : va_W} {H : Heap} {locs : List Loc} {ls : Array Slot} {qx qm i : Nat} {x3 : Int32} (hi : i + 6 ≤ L) (ex3 : x3 = nI i) (hW : sd_RW s (sd_rp M) ws) (hP : va_P D vwCl ws H) (hD : va_D (sd_LA s) ws) (hS : va_S (sd_LA s) s.heap H locs) (hqx : (ws.map (fun q => q.1))[0]? = some qx) (hqm : (ws.map (fun q => q.1))[331]? = some qm) (hl : lv_has ls 4 [(0, .ref b), (1, .ref qx), (2, .ref qm), (3, .int x3)])
    (kk : ∀ (M2 : sd_M) (ws2 : va_W) (H1 : Heap) (locs1 : List Loc), Inv M2 → sd_RW s (sd_rp M2) ws2 → va_P D vwCl ws2 H1 → va_D (sd_LA s) ws2 → va_S (sd_LA s) s.heap H1 locs1 → (ws2.map (fun q => q.1))[0]? = some qx → (ws2.map (fun q => q.1))[331]? = some qm → W p l e room_1 s m #[Value.ref b] below meth c H1 locs1 357 15544 Q (F0 m 1187 ls [])) : W p l e room_1 s m #[Value.ref b] below meth c H locs 357 15544 Q (F0 m 1141 ls []) := by
  obtain ⟨hx, hb, hr, hml, hown, hts, hXs, hbl, hlocks, hgv⟩ := id C0
  have hbA : ¬ sd_LA s b := Nat.not_le.mpr hbl
  obtain ⟨r, M1, M2, e1, e2, hI⟩ := hs M hM _ (sd_rgi (xs (x3 + 1).toNatClampNeg))
  refine lv_aload_n hx hb dl_1141 rfl (lv_at hl 1 rfl) ?_
  refine lv_aload_n hx hb dl_1142 rfl (lv_at hl 0 rfl) ?_
  refine lv_iload_n hx hb dl_1143 rfl (lv_at hl 3 rfl) ?_
  refine lv_iconst (v := 1) hx hb dl_1144 (by decide) ?_
  refine lv_iadd hx hb dl_1145 ?_
  refine va_sld hx hb hXs hbl hbA hS (sd_lin ex3 hi hL 1 (by decide)) dl_1146 ?_
  refine sd_lcall (M := M) (M2 := M1) (r := r) (a := 0) C0 hX hK hN hSS [xs (x3 + 1).toNatClampNeg] sd_i_X9_image (List.mem_of_getElem? (i := 1009) rfl) (List.mem_of_getElem? (i := 1010) rfl) (List.mem_of_getElem? (i := 1011) rfl) (List.mem_of_getElem? (i := 116) rfl) rfl sd_o_0 (m_X9_image (by omega) e1) hW hP hD hS hqx hl.1 (Nat.le_of_ble_eq_true rfl) dl_1147 ⟨Nat.le_of_ble_eq_true rfl, Nat.le_of_ble_eq_true rfl⟩ rfl (fun rv ws1 H1 locs1 hrv hW1 hP1 hD1 hS1 hex1 => ?_)
  refine lv_aload_n hx hb dl_1150 rfl (lv_at hl 2 rfl) ?_
  refine lv_aload_n hx hb dl_1151 rfl (lv_at hl 0 rfl) ?_
  refine lv_iload_n hx hb dl_1152 rfl (lv_at hl 3 rfl) ?_
  refine lv_iconst (v := 1) hx hb dl_1153 (by decide) ?_
  refine lv_iadd hx hb dl_1154 ?_
  refine va_sld hx hb hXs hbl hbA hS1 (sd_lin ex3 hi hL 1 (by decide)) dl_1155 ?_
  refine sd_lcall (M := M1) (M2 := M2) (r := r) (a := 331) C0 hX hK hN hSS [xs (x3 + 1).toNatClampNeg] sd_i_X10_image (List.mem_of_getElem? (i := 1661) rfl) (List.mem_of_getElem? (i := 1662) rfl) (List.mem_of_getElem? (i := 1663) rfl) (List.mem_of_getElem? (i := 126) rfl) rfl sd_o_331 (m_X10_image (by omega) e2) hW1 hP1 hD1 hS1 (sd_ext_get hex1 hqm) hl.1 (Nat.le_of_ble_eq_true rfl) dl_1156 ⟨Nat.le_of_ble_eq_true rfl, Nat.le_of_ble_eq_true rfl⟩ rfl (fun rv2 ws2 H2 locs2 hrv2 hW2 hP2 hD2 hS2 hex2 => ?_)
  refine lv_icmp_eq (tgt := 1187) hx hb dl_1159 (by decide) (fun c1 => ?_) (fun c1 => absurd (Int32.toInt_inj.mp (hrv.trans hrv2.symm)) c1)
  exact kk M2 ws2 H2 locs2 hI hW2 hP2 hD2 hS2 (sd_ext_get hex2 (sd_ext_get hex1 hqx)) (sd_ext_get hex2 (sd_ext_get hex1 hqm))
set_option maxRecDepth 10000 in
theorem lc_back {p : Program} {l : Launch} {e : Env} {s : State} {m : MethodId} {below : List Frame} {meth : Method} {c : Code} {b L : Nat} {xs : Nat → Int32} {D : va_G} {Q : State → Prop} (hL : L ≤ 3072) (C0 : lw_At p s m meth c b L xs) (hX : ∀ d j As E Ra, sd_X j As E Ra → sd_Snd l d j As E Ra) (hK : va_K D vwCl [] s) (hN : sd_NW s) (hSS : sd_SS (sd_LA s) s s.heap) {Inv : sd_M → Prop} (hs : sd_S1 Inv f_X9_back f_X10_back) {M : sd_M} (hM : Inv M) {ws : va_W} {H : Heap} {locs : List Loc} {ls : Array Slot} {qx qm i : Nat} {x3 : Int32} (hi : i + 6 ≤ L) (ex3 : x3 = nI i) (hW : sd_RW s (sd_rp M) ws) (hP : va_P D vwCl ws H) (hD : va_D (sd_LA s) ws) (hS : va_S (sd_LA s) s.heap H locs) (hqx : (ws.map (fun q => q.1))[0]? = some qx) (hqm : (ws.map (fun q => q.1))[331]? = some qm) (hl : lv_has ls 4 [(0, .ref b), (1, .ref qx), (2, .ref qm), (3, .int x3)])
    (kk : ∀ (M2 : sd_M) (ws2 : va_W) (H1 : Heap) (locs1 : List Loc), Inv M2 → sd_RW s (sd_rp M2) ws2 → va_P D vwCl ws2 H1 → va_D (sd_LA s) ws2 → va_S (sd_LA s) s.heap H1 locs1 → (ws2.map (fun q => q.1))[0]? = some qx → (ws2.map (fun q => q.1))[331]? = some qm → W p l e room_1 s m #[Value.ref b] below meth c H1 locs1 357 15544 Q (F0 m 1187 ls [])) : W p l e room_1 s m #[Value.ref b] below meth c H locs 357 15544 Q (F0 m 1164 ls []) := by
  obtain ⟨hx, hb, hr, hml, hown, hts, hXs, hbl, hlocks, hgv⟩ := id C0
  have hbA : ¬ sd_LA s b := Nat.not_le.mpr hbl
  obtain ⟨r, M1, M2, e1, e2, hI⟩ := hs M hM _ (sd_rgi (xs (x3 + 1).toNatClampNeg))
  refine lv_aload_n hx hb dl_1164 rfl (lv_at hl 1 rfl) ?_
  refine lv_aload_n hx hb dl_1165 rfl (lv_at hl 0 rfl) ?_
  refine lv_iload_n hx hb dl_1166 rfl (lv_at hl 3 rfl) ?_
  refine lv_iconst (v := 1) hx hb dl_1167 (by decide) ?_
  refine lv_iadd hx hb dl_1168 ?_
  refine va_sld hx hb hXs hbl hbA hS (sd_lin ex3 hi hL 1 (by decide)) dl_1169 ?_
  refine sd_lcall (M := M) (M2 := M1) (r := r) (a := 0) C0 hX hK hN hSS [xs (x3 + 1).toNatClampNeg] sd_i_X9_back (List.mem_of_getElem? (i := 1024) rfl) (List.mem_of_getElem? (i := 1025) rfl) (List.mem_of_getElem? (i := 1026) rfl) (List.mem_of_getElem? (i := 116) rfl) rfl sd_o_0 (m_X9_back (by omega) e1) hW hP hD hS hqx hl.1 (Nat.le_of_ble_eq_true rfl) dl_1170 ⟨Nat.le_of_ble_eq_true rfl, Nat.le_of_ble_eq_true rfl⟩ rfl (fun rv ws1 H1 locs1 hrv hW1 hP1 hD1 hS1 hex1 => ?_)
  refine lv_aload_n hx hb dl_1173 rfl (lv_at hl 2 rfl) ?_
  refine lv_aload_n hx hb dl_1174 rfl (lv_at hl 0 rfl) ?_
  refine lv_iload_n hx hb dl_1175 rfl (lv_at hl 3 rfl) ?_
  refine lv_iconst (v := 1) hx hb dl_1176 (by decide) ?_
  refine lv_iadd hx hb dl_1177 ?_
  refine va_sld hx hb hXs hbl hbA hS1 (sd_lin ex3 hi hL 1 (by decide)) dl_1178 ?_
  refine sd_lcall (M := M1) (M2 := M2) (r := r) (a := 331) C0 hX hK hN hSS [xs (x3 + 1).toNatClampNeg] sd_i_X10_back (List.mem_of_getElem? (i := 1665) rfl) (List.mem_of_getElem? (i := 1666) rfl) (List.mem_of_getElem? (i := 1667) rfl) (List.mem_of_getElem? (i := 126) rfl) rfl sd_o_331 (m_X10_back (by omega) e2) hW1 hP1 hD1 hS1 (sd_ext_get hex1 hqm) hl.1 (Nat.le_of_ble_eq_true rfl) dl_1179 ⟨Nat.le_of_ble_eq_true rfl, Nat.le_of_ble_eq_true rfl⟩ rfl (fun rv2 ws2 H2 locs2 hrv2 hW2 hP2 hD2 hS2 hex2 => ?_)
  refine lv_icmp_eq (tgt := 1187) hx hb dl_1182 (by decide) (fun c1 => ?_) (fun c1 => absurd (Int32.toInt_inj.mp (hrv.trans hrv2.symm)) c1)
  exact kk M2 ws2 H2 locs2 hI hW2 hP2 hD2 hS2 (sd_ext_get hex2 (sd_ext_get hex1 hqx)) (sd_ext_get hex2 (sd_ext_get hex1 hqm))
