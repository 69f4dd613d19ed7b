/-! the law: its loop, its begin -/
set_option maxRecDepth 10000 in
set_option maxHeartbeats 4000000 in
theorem law_loop {p : Program} {l : Launch} {e : Env} {s : State} {m : MethodId} {below : List Frame} {meth : Method} {c : Code} {b L : Nat} {xs : Nat → Int32} {D : va_G} (hL : L ≤ 3072) (C0 : lw_At p s m meth c b L xs) (hX : ∀ d j As E Ra, sd_X j As E Ra → sd_Snd l d j As E Ra) (hK : va_K D vwCl [] s) (hN : sd_NW s) (hSS : sd_SS (sd_LA s) s s.heap) {Inv : sd_M → Prop} (hs : sd_Sim Inv) :
    ∀ (n i : Nat) (x3 : Int32) (M : sd_M), i ≤ L → L + 1 ≤ i + n → x3 = nI i → Inv M → ∀ (ws : va_W) (H : Heap) (locs : List Loc) (ls : Array Slot) (qx qm : Nat), sd_RW s (sd_rp M) ws → va_P D vwCl ws H → va_D (sd_LA s) ws → va_S (sd_LA s) s.heap H locs → (ws.map (fun q => q.1))[0]? = some qx → (ws.map (fun q => q.1))[331]? = some qm → lv_has ls 4 [(0, .ref b), (1, .ref qx), (2, .ref qm), (3, .int x3)] → W p l e room_1 s m #[Value.ref b] below meth c H locs 357 15544 (lw_Z below #[Value.ref b] s) (F0 m 18 ls []) := by
  obtain ⟨hx, hb, hr, hml, hown, hts, hXs, hbl, hlocks, hgv⟩ := id C0
  have hbA : ¬ sd_LA s b := Nat.not_le.mpr hbl
  intro n
  induction n with
  | zero =>
    intro i x3 M h1 h2
    exact absurd h2 (by omega)
  | succ n ih =>
    intro i x3 M hi hin ex3 hM ws H locs ls qx qm hW hP hD hS hqx hqm hl
    refine lv_iload_n hx hb dl_18 rfl (lv_at hl 3 rfl) ?_
    refine lv_aload_n hx hb dl_19 rfl (lv_at hl 0 rfl) ?_
    refine va_slen hx hb hXs hbl hbA hS dl_20 ?_
    refine lv_bipush (v := 6) hx hb dl_21 (by decide) ?_
    refine lv_isub hx hb dl_23 ?_
    have e1 : (nI i).toInt = (i : Int) := nI_toInt (by omega)
    have e2 : (Int32.ofNat L).toInt = (L : Int) := nI_toInt (by omega)
    have e3 : (Int32.ofNat L - 6).toInt = (L : Int) - 6 := by
      rw [Int32.toInt_sub, e2, show (6 : Int32).toInt = 6 from rfl, Int.bmod_eq_of_le (by omega) (by omega)]
    refine lv_icmp_gt (tgt := 1193) hx hb dl_24 (by decide) (fun c1 => ?_) (fun c1 => ?_)
    · refine lv_iconst (v := 1) hx hb dl_1193 (by decide) ?_
      refine va_forget (fun q hq => hS.2.2 q hq) ?_
      refine W.widen (k := 600000) (n := 7302250) (Nat.le_of_ble_eq_true rfl) (Nat.le_of_ble_eq_true rfl) ?_
      exact lw_ret hx hb hr hlocks dl_1194
    · have hi6 : i + 6 ≤ L := by
        rw [ex3, Int32.lt_iff_toInt_lt, e1, e3] at c1
        omega
      have hin0 : vp_in x3 L := by
        refine sd_vpin (decide_eq_true ?_)
        rw [ex3, e1]
        omega
      refine lv_aload_n hx hb dl_27 rfl (lv_at hl 0 rfl) ?_
      refine lv_iload_n hx hb dl_28 rfl (lv_at hl 3 rfl) ?_
      refine va_sld hx hb hXs hbl hbA hS hin0 dl_29 ?_
      refine lv_bipush (v := 63) hx hb dl_30 (by decide) ?_
      refine lv_iand hx hb dl_32 ?_
      have kk : ∀ (M2 : sd_M) (ws2 : va_W) (H1 : Heap) (locs1 : List Loc), Inv M2 → sd_RW s (sd_rp M2) ws2 → va_P D vwCl ws2 H1 → va_D (sd_LA s) ws2 → va_S (sd_LA s) s.heap H1 locs1 → (ws2.map (fun q => q.1))[0]? = some qx → (ws2.map (fun q => q.1))[331]? = some qm → W p l e room_1 s m #[Value.ref b] below meth c H1 locs1 357 15544 (lw_Z below #[Value.ref b] s) (F0 m 1187 ls []) := by
        intro M2 ws2 H1 locs1 hI hW2 hP2 hD2 hS2 hqx2 hqm2
        refine lv_iinc (v := x3 + 6) (lv' := [(3, .int (x3 + 6)), (0, .ref b), (1, .ref qx), (2, .ref qm)]) hx hb dl_1187 hl (k := 3) rfl rfl (by decide) rfl (fun ls hl => ?_)
        refine lv_goto (tgt := 18) hx hb dl_1190 (by decide) ?_
        refine ih (i + 6) (x3 + 6) M2 hi6 (by omega) ?_ hI ws2 H1 locs1 ls qx qm hW2 hP2 hD2 hS2 hqx2 hqm2 (lv_sub hl [1, 2, 3, 0] rfl)
        refine Int32.toInt_inj.mp ?_
        rw [Int32.toInt_add, ex3, e1, nI_toInt (by omega), show (6 : Int32).toInt = 6 from rfl, Int.bmod_eq_of_le (by omega) (by omega)]
        rfl
      generalize xs x3.toNatClampNeg &&& 63 = v
      by_cases c2 : v.toInt = 0
      · refine lv_tableIn (off := 163) (tgt := 196) hx hb dl_33 (by omega) (by omega) (by rw [c2]; rfl) (by decide) ?_
        exact lc_feed hL C0 hX hK hN hSS (hs.1) hM hi6 ex3 hW hP hD hS hqx hqm hl kk
      by_cases c3 : v.toInt = 1
      · refine lv_tableIn (off := 226) (tgt := 259) hx hb dl_33 (by omega) (by omega) (by rw [c3]; rfl) (by decide) ?_
        exact lc_end hL C0 hX hK hN hSS (hs.2.1) hM hi6 ex3 hW hP hD hS hqx hqm hl kk
      by_cases c4 : v.toInt = 2
      · refine lv_tableIn (off := 249) (tgt := 282) hx hb dl_33 (by omega) (by omega) (by rw [c4]; rfl) (by decide) ?_
        exact lc_slip hL C0 hX hK hN hSS (hs.2.2.1) hM hi6 ex3 hW hP hD hS hqx hqm hl kk
      by_cases c5 : v.toInt = 3
      · refine lv_tableIn (off := 262) (tgt := 295) hx hb dl_33 (by omega) (by omega) (by rw [c5]; rfl) (by decide) ?_
        exact lc_rule hL C0 hX hK hN hSS (hs.2.2.2.1) hM hi6 ex3 hW hP hD hS hqx hqm hl kk
      by_cases c6 : v.toInt = 4
      · refine lv_tableIn (off := 275) (tgt := 308) hx hb dl_33 (by omega) (by omega) (by rw [c6]; rfl) (by decide) ?_
        exact lc_force hL C0 hX hK hN hSS (hs.2.2.2.2.1) hM hi6 ex3 hW hP hD hS hqx hqm hl kk
      by_cases c7 : v.toInt = 5
      · refine lv_tableIn (off := 298) (tgt := 331) hx hb dl_33 (by omega) (by omega) (by rw [c7]; rfl) (by decide) ?_
        exact lc_offer hL C0 hX hK hN hSS (hs.2.2.2.2.2.1) hM hi6 ex3 hW hP hD hS hqx hqm hl kk
      by_cases c8 : v.toInt = 6
      · refine lv_tableIn (off := 331) (tgt := 364) hx hb dl_33 (by omega) (by omega) (by rw [c8]; rfl) (by decide) ?_
        exact lc_need hL C0 hX hK hN hSS (hs.2.2.2.2.2.2.1) hM hi6 ex3 hW hP hD hS hqx hqm hl kk
      by_cases c9 : v.toInt = 7
      · refine lv_tableIn (off := 374) (tgt := 407) hx hb dl_33 (by omega) (by omega) (by rw [c9]; rfl) (by decide) ?_
        exact lc_line hL C0 hX hK hN hSS (hs.2.2.2.2.2.2.2.1) hM hi6 ex3 hW hP hD hS hqx hqm hl kk
      by_cases c10 : v.toInt = 8
      · refine lv_tableIn (off := 397) (tgt := 430) hx hb dl_33 (by omega) (by omega) (by rw [c10]; rfl) (by decide) ?_
        exact lc_out hL C0 hX hK hN hSS (hs.2.2.2.2.2.2.2.2.1) hM hi6 ex3 hW hP hD hS hqx hqm hl kk
      by_cases c11 : v.toInt = 9
      · refine lv_tableIn (off := 420) (tgt := 453) hx hb dl_33 (by omega) (by omega) (by rw [c11]; rfl) (by decide) ?_
        exact lc_day hL C0 hX hK hN hSS (hs.2.2.2.2.2.2.2.2.2.1) hM hi6 ex3 hW hP hD hS hqx hqm hl kk
      by_cases c12 : v.toInt = 10
      · refine lv_tableIn (off := 433) (tgt := 466) hx hb dl_33 (by omega) (by omega) (by rw [c12]; rfl) (by decide) ?_
        exact lc_cancel hL C0 hX hK hN hSS (hs.2.2.2.2.2.2.2.2.2.2.1) hM hi6 ex3 hW hP hD hS hqx hqm hl kk
      by_cases c13 : v.toInt = 11
      · refine lv_tableIn (off := 456) (tgt := 489) hx hb dl_33 (by omega) (by omega) (by rw [c13]; rfl) (by decide) ?_
        exact lc_order hL C0 hX hK hN hSS (hs.2.2.2.2.2.2.2.2.2.2.2.1) hM hi6 ex3 hW hP hD hS hqx hqm hl kk
      by_cases c14 : v.toInt = 12
      · refine lv_tableIn (off := 479) (tgt := 512) hx hb dl_33 (by omega) (by omega) (by rw [c14]; rfl) (by decide) ?_
        exact lc_write hL C0 hX hK hN hSS (hs.2.2.2.2.2.2.2.2.2.2.2.2.1) hM hi6 ex3 hW hP hD hS hqx hqm hl kk
      by_cases c15 : v.toInt = 13
      · refine lv_tableIn (off := 512) (tgt := 545) hx hb dl_33 (by omega) (by omega) (by rw [c15]; rfl) (by decide) ?_
        exact lc_claim hL C0 hX hK hN hSS (hs.2.2.2.2.2.2.2.2.2.2.2.2.2.1) hM hi6 ex3 hW hP hD hS hqx hqm hl kk
      by_cases c16 : v.toInt = 14
      · refine lv_tableIn (off := 535) (tgt := 568) hx hb dl_33 (by omega) (by omega) (by rw [c16]; rfl) (by decide) ?_
        exact lc_undo hL C0 hX hK hN hSS (hs.2.2.2.2.2.2.2.2.2.2.2.2.2.2.1) hM hi6 ex3 hW hP hD hS hqx hqm hl kk
      by_cases c17 : v.toInt = 15
      · refine lv_tableIn (off := 548) (tgt := 581) hx hb dl_33 (by omega) (by omega) (by rw [c17]; rfl) (by decide) ?_
        exact lc_would hL C0 hX hK hN hSS (hs.2.2.2.2.2.2.2.2.2.2.2.2.2.2.2.1) hM hi6 ex3 hW hP hD hS hqx hqm hl kk
      by_cases c18 : v.toInt = 16
      · refine lv_tableIn (off := 581) (tgt := 614) hx hb dl_33 (by omega) (by omega) (by rw [c18]; rfl) (by decide) ?_
        exact lc_least hL C0 hX hK hN hSS (hs.2.2.2.2.2.2.2.2.2.2.2.2.2.2.2.2.1) hM hi6 ex3 hW hP hD hS hqx hqm hl kk
      by_cases c19 : v.toInt = 17
      · refine lv_tableIn (off := 614) (tgt := 647) hx hb dl_33 (by omega) (by omega) (by rw [c19]; rfl) (by decide) ?_
        exact lc_worst hL C0 hX hK hN hSS (hs.2.2.2.2.2.2.2.2.2.2.2.2.2.2.2.2.2.1) hM hi6 ex3 hW hP hD hS hqx hqm hl kk
      by_cases c20 : v.toInt = 18
      · refine lv_tableIn (off := 637) (tgt := 670) hx hb dl_33 (by omega) (by omega) (by rw [c20]; rfl) (by decide) ?_
        exact lc_firm hL C0 hX hK hN hSS (hs.2.2.2.2.2.2.2.2.2.2.2.2.2.2.2.2.2.2.1) hM hi6 ex3 hW hP hD hS hqx hqm hl kk
      by_cases c21 : v.toInt = 19
      · refine lv_tableIn (off := 650) (tgt := 683) hx hb dl_33 (by omega) (by omega) (by rw [c21]; rfl) (by decide) ?_
        exact lc_half hL C0 hX hK hN hSS (hs.2.2.2.2.2.2.2.2.2.2.2.2.2.2.2.2.2.2.2.1) hM hi6 ex3 hW hP hD hS hqx hqm hl kk
      by_cases c22 : v.toInt = 20
      · refine lv_tableIn (off := 673) (tgt := 706) hx hb dl_33 (by omega) (by omega) (by rw [c22]; rfl) (by decide) ?_
        exact lc_agree hL C0 hX hK hN hSS (hs.2.2.2.2.2.2.2.2.2.2.2.2.2.2.2.2.2.2.2.2.1) hM hi6 ex3 hW hP hD hS hqx hqm hl kk
      by_cases c23 : v.toInt = 21
      · refine lv_tableIn (off := 706) (tgt := 739) hx hb dl_33 (by omega) (by omega) (by rw [c23]; rfl) (by decide) ?_
        exact lc_rows hL C0 hX hK hN hSS (hs.2.2.2.2.2.2.2.2.2.2.2.2.2.2.2.2.2.2.2.2.2.1) hM hi6 ex3 hW hP hD hS hqx hqm hl kk
      by_cases c24 : v.toInt = 22
      · refine lv_tableIn (off := 729) (tgt := 762) hx hb dl_33 (by omega) (by omega) (by rw [c24]; rfl) (by decide) ?_
        exact lc_ahead hL C0 hX hK hN hSS (hs.2.2.2.2.2.2.2.2.2.2.2.2.2.2.2.2.2.2.2.2.2.2.1) hM hi6 ex3 hW hP hD hS hqx hqm hl kk
      by_cases c25 : v.toInt = 23
      · refine lv_tableIn (off := 762) (tgt := 795) hx hb dl_33 (by omega) (by omega) (by rw [c25]; rfl) (by decide) ?_
        exact lc_full hL C0 hX hK hN hSS (hs.2.2.2.2.2.2.2.2.2.2.2.2.2.2.2.2.2.2.2.2.2.2.2.1) hM hi6 ex3 hW hP hD hS hqx hqm hl kk
      by_cases c26 : v.toInt = 24
      · refine lv_tableIn (off := 775) (tgt := 808) hx hb dl_33 (by omega) (by omega) (by rw [c26]; rfl) (by decide) ?_
        exact lc_taken hL C0 hX hK hN hSS (hs.2.2.2.2.2.2.2.2.2.2.2.2.2.2.2.2.2.2.2.2.2.2.2.2.1) hM hi6 ex3 hW hP hD hS hqx hqm hl kk
      by_cases c27 : v.toInt = 25
      · refine lv_tableIn (off := 798) (tgt := 831) hx hb dl_33 (by omega) (by omega) (by rw [c27]; rfl) (by decide) ?_
        exact lc_sizes hL C0 hX hK hN hSS (hs.2.2.2.2.2.2.2.2.2.2.2.2.2.2.2.2.2.2.2.2.2.2.2.2.2.1) hM hi6 ex3 hW hP hD hS hqx hqm hl kk
      by_cases c28 : v.toInt = 26
      · refine lv_tableIn (off := 831) (tgt := 864) hx hb dl_33 (by omega) (by omega) (by rw [c28]; rfl) (by decide) ?_
        exact lc_standing hL C0 hX hK hN hSS (hs.2.2.2.2.2.2.2.2.2.2.2.2.2.2.2.2.2.2.2.2.2.2.2.2.2.2.1) hM hi6 ex3 hW hP hD hS hqx hqm hl kk
      by_cases c29 : v.toInt = 27
      · refine lv_tableIn (off := 854) (tgt := 887) hx hb dl_33 (by omega) (by omega) (by rw [c29]; rfl) (by decide) ?_
        exact lc_rests hL C0 hX hK hN hSS (hs.2.2.2.2.2.2.2.2.2.2.2.2.2.2.2.2.2.2.2.2.2.2.2.2.2.2.2.1) hM hi6 ex3 hW hP hD hS hqx hqm hl kk
      by_cases c30 : v.toInt = 28
      · refine lv_tableIn (off := 897) (tgt := 930) hx hb dl_33 (by omega) (by omega) (by rw [c30]; rfl) (by decide) ?_
        exact lc_pence hL C0 hX hK hN hSS (hs.2.2.2.2.2.2.2.2.2.2.2.2.2.2.2.2.2.2.2.2.2.2.2.2.2.2.2.2.1) hM hi6 ex3 hW hP hD hS hqx hqm hl kk
      by_cases c31 : v.toInt = 29
      · refine lv_tableIn (off := 930) (tgt := 963) hx hb dl_33 (by omega) (by omega) (by rw [c31]; rfl) (by decide) ?_
        exact lc_note hL C0 hX hK hN hSS (hs.2.2.2.2.2.2.2.2.2.2.2.2.2.2.2.2.2.2.2.2.2.2.2.2.2.2.2.2.2.1) hM hi6 ex3 hW hP hD hS hqx hqm hl kk
      by_cases c32 : v.toInt = 30
      · refine lv_tableIn (off := 963) (tgt := 996) hx hb dl_33 (by omega) (by omega) (by rw [c32]; rfl) (by decide) ?_
        exact lc_ruled hL C0 hX hK hN hSS (hs.2.2.2.2.2.2.2.2.2.2.2.2.2.2.2.2.2.2.2.2.2.2.2.2.2.2.2.2.2.2.1) hM hi6 ex3 hW hP hD hS hqx hqm hl kk
      by_cases c33 : v.toInt = 31
      · refine lv_tableIn (off := 986) (tgt := 1019) hx hb dl_33 (by omega) (by omega) (by rw [c33]; rfl) (by decide) ?_
        exact lc_look hL C0 hX hK hN hSS (hs.2.2.2.2.2.2.2.2.2.2.2.2.2.2.2.2.2.2.2.2.2.2.2.2.2.2.2.2.2.2.2.1) hM hi6 ex3 hW hP hD hS hqx hqm hl kk
      by_cases c34 : v.toInt = 32
      · refine lv_tableIn (off := 1009) (tgt := 1042) hx hb dl_33 (by omega) (by omega) (by rw [c34]; rfl) (by decide) ?_
        exact lc_seed hL C0 hX hK hN hSS (hs.2.2.2.2.2.2.2.2.2.2.2.2.2.2.2.2.2.2.2.2.2.2.2.2.2.2.2.2.2.2.2.2.1) hM hi6 ex3 hW hP hD hS hqx hqm hl kk
      by_cases c35 : v.toInt = 33
      · refine lv_tableIn (off := 1032) (tgt := 1065) hx hb dl_33 (by omega) (by omega) (by rw [c35]; rfl) (by decide) ?_
        exact lc_seasons hL C0 hX hK hN hSS (hs.2.2.2.2.2.2.2.2.2.2.2.2.2.2.2.2.2.2.2.2.2.2.2.2.2.2.2.2.2.2.2.2.2.1) hM hi6 ex3 hW hP hD hS hqx hqm hl kk
      by_cases c36 : v.toInt = 34
      · refine lv_tableIn (off := 1085) (tgt := 1118) hx hb dl_33 (by omega) (by omega) (by rw [c36]; rfl) (by decide) ?_
        exact lc_count hL C0 hX hK hN hSS (hs.2.2.2.2.2.2.2.2.2.2.2.2.2.2.2.2.2.2.2.2.2.2.2.2.2.2.2.2.2.2.2.2.2.2.1) hM hi6 ex3 hW hP hD hS hqx hqm hl kk
      by_cases c37 : v.toInt = 35
      · refine lv_tableIn (off := 1108) (tgt := 1141) hx hb dl_33 (by omega) (by omega) (by rw [c37]; rfl) (by decide) ?_
        exact lc_image hL C0 hX hK hN hSS (hs.2.2.2.2.2.2.2.2.2.2.2.2.2.2.2.2.2.2.2.2.2.2.2.2.2.2.2.2.2.2.2.2.2.2.2.1) hM hi6 ex3 hW hP hD hS hqx hqm hl kk
      by_cases c38 : v.toInt = 36
      · refine lv_tableIn (off := 1131) (tgt := 1164) hx hb dl_33 (by omega) (by omega) (by rw [c38]; rfl) (by decide) ?_
        exact lc_back hL C0 hX hK hN hSS (hs.2.2.2.2.2.2.2.2.2.2.2.2.2.2.2.2.2.2.2.2.2.2.2.2.2.2.2.2.2.2.2.2.2.2.2.2) hM hi6 ex3 hW hP hD hS hqx hqm hl kk
      refine lv_tableOut (tgt := 1187) hx hb dl_33 (by omega) (by decide) ?_
      exact kk M ws H locs hM hW hP hD hS hqx hqm
set_option maxRecDepth 10000 in
theorem sd_inst : ∀ (ci : Nat) (q : vw_C), vwCl[ci]? = some q → Cond.instantiable q.1 q.2.2 ∈ lw_tbl
  | 0, q, h => by cases h; exact List.mem_of_getElem? (i := 296) rfl
  | 1, q, h => by cases h; exact List.mem_of_getElem? (i := 400) rfl
  | 2, q, h => by cases h; exact List.mem_of_getElem? (i := 288) rfl
  | 3, q, h => by cases h; exact List.mem_of_getElem? (i := 358) rfl
  | 4, q, h => by cases h; exact List.mem_of_getElem? (i := 255) rfl
  | 5, q, h => by cases h; exact List.mem_of_getElem? (i := 244) rfl
  | 6, q, h => by cases h; exact List.mem_of_getElem? (i := 178) rfl
  | 7, q, h => by cases h; exact List.mem_of_getElem? (i := 143) rfl
  | 8, q, h => by cases h; exact List.mem_of_getElem? (i := 184) rfl
  | 9, q, h => by cases h; exact List.mem_of_getElem? (i := 135) rfl
  | 10, q, h => by cases h; exact List.mem_of_getElem? (i := 1029) rfl
  | n + 11, q, h => by simp [vwCl] at h
theorem sd_k9_len (b : Nat) : (sd_k9 b).length = 331 := by simp [sd_k9, sd_t9_len, sd_k1_len, sd_k0_len]
theorem sd_K0 {args : Array Value} {s : State} (hts : ∀ w ∈ lw_tbl, w.before args s = true) : ∃ D : va_G, va_K D vwCl [] s := by
  have h : ∀ (k : Nat), ∃ (cC : ClassId) (iS : Nat → Nat), ∀ q : vw_C, vwCl[k]? = some q → u_Kn s q.1 q.2.1 q.2.2 cC iS := by
    intro k
    cases hq : vwCl[k]? with
    | none => exact ⟨0, fun _ => 0, fun q h => by cases h⟩
    | some q =>
      have hin := (sd_cls_ok k q hq).1
      have hins : Cond.instantiable q.1 q.2.2 ∈ lw_tbl := sd_inst k q hq
      obtain ⟨c0, iS0, hKn0⟩ := u_known (C := q.1) (T := q.2.1) (N := q.2.2) (n := q.2.2) hts (fun w hw => sd_Gt w (hin w hw)) (hts _ hins)
      exact ⟨c0, iS0, fun q2 h2 => by cases h2; exact hKn0⟩
  refine ⟨(fun k => Classical.choose (h k), fun k => Classical.choose (Classical.choose_spec (h k))), fun k q hq => Classical.choose_spec (Classical.choose_spec (h k)) q hq, fun k q hk => by simp at hk⟩
set_option maxRecDepth 10000 in
theorem sd_N0 {args : Array Value} {s : State} (hts : ∀ w ∈ lw_tbl, w.before args s = true) : sd_NW s := ⟨List.forall_mem_cons.mpr ⟨va_Nw.of rfl (hts _ (List.mem_of_getElem? (i := 144) rfl)), List.forall_mem_cons.mpr ⟨va_Nw.of rfl (hts _ (List.mem_of_getElem? (i := 179) rfl)), List.forall_mem_cons.mpr ⟨va_Nw.of rfl (hts _ (List.mem_of_getElem? (i := 185) rfl)), List.forall_mem_cons.mpr ⟨va_Nw.of rfl (hts _ (List.mem_of_getElem? (i := 245) rfl)), List.forall_mem_cons.mpr ⟨va_Nw.of rfl (hts _ (List.mem_of_getElem? (i := 256) rfl)), List.forall_mem_cons.mpr ⟨va_Nw.of rfl (hts _ (List.mem_of_getElem? (i := 289) rfl)), List.forall_mem_cons.mpr ⟨va_Nw.of rfl (hts _ (List.mem_of_getElem? (i := 294) rfl)), List.forall_mem_cons.mpr ⟨va_Nw.of rfl (hts _ (List.mem_of_getElem? (i := 297) rfl)), List.forall_mem_cons.mpr ⟨va_Nw.of rfl (hts _ (List.mem_of_getElem? (i := 359) rfl)), List.forall_mem_cons.mpr ⟨va_Nw.of rfl (hts _ (List.mem_of_getElem? (i := 398) rfl)), List.forall_mem_cons.mpr ⟨va_Nw.of rfl (hts _ (List.mem_of_getElem? (i := 401) rfl)), List.forall_mem_cons.mpr ⟨va_Nw.of rfl (hts _ (List.mem_of_getElem? (i := 763) rfl)), fun _ h => absurd h List.not_mem_nil⟩⟩⟩⟩⟩⟩⟩⟩⟩⟩⟩⟩, List.forall_mem_cons.mpr ⟨va_AO.of (hts _ (List.mem_of_getElem? (i := 254) rfl)), List.forall_mem_cons.mpr ⟨va_AO.of (hts _ (List.mem_of_getElem? (i := 395) rfl)), List.forall_mem_cons.mpr ⟨va_AO.of (hts _ (List.mem_of_getElem? (i := 397) rfl)), fun _ h => absurd h List.not_mem_nil⟩⟩⟩⟩
set_option maxRecDepth 10000 in
theorem sd_bytes_chk : (List.range 92).all (fun j => decide (Cond.eq (.elem (.field (Term.string "SlipDesk$Text" 62) "java/lang/String" "value" "[B") (.int (Int32.ofNat j))) (.int (([sd_wb].getD 0 []).getD j 0)) ∈ flatC (Jvm.Cond.and given_1 narrow_1))) = true := by decide +kernel
theorem sd_bytes {args : Array Value} {s : State} (hg : ∀ c ∈ flatC (Jvm.Cond.and given_1 narrow_1), c.before args s = true) (j : Nat) (hj : j < [92].getD 0 0) : (Cond.eq (.elem (.field (Term.string "SlipDesk$Text" 62) "java/lang/String" "value" "[B") (.int (Int32.ofNat j))) (.int (([sd_wb].getD 0 []).getD j 0))).before args s = true := hg _ (of_decide_eq_true (List.all_eq_true.mp sd_bytes_chk j (List.mem_range.mpr hj)))
set_option maxRecDepth 10000 in
theorem sd_SS0 {p : Program} {s : State} {m : MethodId} {meth : Method} {c : Code} {b L : Nat} {xs : Nat → Int32} (C0 : lw_At p s m meth c b L xs) : sd_SS (sd_LA s) s s.heap := by
  obtain ⟨hx, hb, hr, hml, hown, hts, hXs, hbl, hlocks, hgv⟩ := C0
  have hg := flat_of_before _ hgv
  have hA : ∀ a : Nat, a < s.heap.size → ¬ sd_LA s a := fun a h => Nat.not_le.mpr h
  obtain ⟨adK, adV, h1, h2⟩ := vk_Sof (N := 1) (tm := fun _ => Term.string "SlipDesk$Text" 62) (len := [92]) (byt := [sd_wb]) (A := sd_LA s) (args := #[Value.ref b]) (s := s) (fun i hi => by rw [show i = 0 by omega]; decide) (fun i hi => hg _ (by decide +kernel)) (fun i hi => hg _ (by decide +kernel)) (fun i hi => hg _ (by decide +kernel)) (fun i hi => by rw [show i = 0 by omega]; exact hg _ (by decide +kernel)) (fun i hi j hj => by
    rw [show i = 0 by omega] at hj ⊢
    exact sd_bytes hg j hj) (fun i j hi hj hij => absurd (by omega) hij) hA
  exact ⟨adK, adV, h1, vk_R.of (hts _ (List.mem_of_getElem? (i := 513) rfl)) (h2 0 (by decide)), va_Zof (hts _ (List.mem_of_getElem? (i := 523) rfl)) (hts _ (List.mem_of_getElem? (i := 127) rfl)) (va_eqt (hg _ (by decide +kernel))) hA, va_Zqof (hts _ (List.mem_of_getElem? (i := 539) rfl)) (hts _ (List.mem_of_getElem? (i := 129) rfl)) (hg _ (by decide +kernel)) hA⟩
set_option maxRecDepth 10000 in
set_option maxHeartbeats 4000000 in
/-- the law from its entry, with the mathematics and the contract of wordAt as hypotheses -/
theorem law_start_open {p : Program} {e : Env} {s : State} {m : MethodId} {below : List Frame} {meth : Method} {c : Code} {l : Launch} {b L : Nat} {xs : Nat → Int32} (hL : L ≤ 3072) (C0 : lw_At p s m meth c b L xs) (hX : ∀ d j As E Ra, sd_X j As E Ra → sd_Snd l d j As E Ra) {Inv : sd_M → Prop} (hI : Inv sd_M0) (hs : sd_Sim Inv) : W p l e room_1 s m #[Value.ref b] below meth c s.heap [] 0 0 (lw_Z below #[Value.ref b] s) (entryFrame m ([Value.ref b] : List Value).toArray 4) := by
  obtain ⟨hx, hb, hr, hml, hown, hts, hXs, hbl, hlocks, hgv⟩ := id C0
  obtain ⟨D, hK⟩ := sd_K0 hts
  have hN := sd_N0 hts
  have hSS := sd_SS0 C0
  have hA : ∀ q : Nat, s.heap.size ≤ q → sd_LA s q := fun _ h => h
  have hS : va_S (sd_LA s) s.heap s.heap [] := va_S.rf
  have hP : va_P D vwCl [] s.heap := fun k q h => by simp at h
  have hD : va_D (sd_LA s) [] := ⟨fun i j p q h => by simp at h, fun k q h => by simp at h⟩
  have hl := lv_entry ([.ref b]) (n := 4) (Nat.le_of_ble_eq_true rfl)
  rw [lg_entry_eq]
  generalize (lg_sl ([.ref b]) ++ List.replicate (4 - (lg_sl ([.ref b])).length) Slot.unset).toArray = ls at hl ⊢
  have hl : lv_has ls 4 [(0, .ref b)] := hl
  have hW0 : sd_RW s [] [] := ⟨rfl, fun k e h => by simp at h⟩
  refine va_new (D := D) (ci := 9) (C := RX9) (T := TX9) (N := 18) (fs := (List.range 18).map (fun k => defaultValue (sd_ty 9 k))) hx hb hts (fun w hw => sd_Gt w (sd_cw9 w hw)) (sd_ty 9) tyX9_ok hown (hts _ (List.mem_of_getElem? (i := 134) rfl)) (hts _ (List.mem_of_getElem? (i := 135) rfl)) (hts _ (List.mem_of_getElem? (i := 116) rfl)) hK hP hD hS hA rfl (fun j hj => by simp [vp_V, hj]) (Nat.le_of_ble_eq_true rfl) (Nat.le_of_ble_eq_true rfl) dl_0 (fun q0 H hP hD hS => ?_)
  have hW1 : sd_RW s ([] ++ [.inl (9, sd_df 9)]) ([] ++ [(q0, .inr (9, (List.range 18).map (fun k => defaultValue (sd_ty 9 k))))]) := sd_RW_push hW0 ⟨rfl, sd_RL_map fun k hk => sd_dv_ok (List.all_eq_true.mp (by decide : (List.range 18).all (fun k => sd_tk (sd_ty 9 k)) = true) k hk)⟩
  refine lv_dup hx hb dl_3 rfl ?_
  refine sd_linit (a := 0) C0 hX hK hN hSS sd_i_X9_init (List.mem_of_getElem? (i := 136) rfl) (List.mem_of_getElem? (i := 137) rfl) (List.mem_of_getElem? (i := 116) rfl) rfl rfl rfl (sd_c9_ok (E := []) (b := 0) rfl (by decide)) hW1 hP hD hS rfl hl.1 (Nat.le_of_ble_eq_true rfl) dl_4 ⟨Nat.le_of_ble_eq_true rfl, Nat.le_of_ble_eq_true rfl⟩ (fun ws1 H1 locs1 hW1 hP1 hD1 hS1 hex1 => ?_)
  have hq0 : (ws1.map (fun q => q.1))[0]? = some q0 := sd_ext_get hex1 rfl
  refine lv_astore_n (lv' := [(1, .ref q0), (0, .ref b)]) hx hb dl_7 rfl hl (by decide) rfl (fun ls hl => ?_)
  refine va_new (D := D) (ci := 10) (C := RX10) (T := TX10) (N := 43) (fs := (List.range 43).map (fun k => defaultValue (sd_ty 10 k))) hx hb hts (fun w hw => sd_Gt w (sd_cw10 w hw)) (sd_ty 10) tyX10_ok hown (hts _ (List.mem_of_getElem? (i := 1028) rfl)) (hts _ (List.mem_of_getElem? (i := 1029) rfl)) (hts _ (List.mem_of_getElem? (i := 126) rfl)) hK hP1 hD1 hS1 hA rfl (fun j hj => by simp [vp_V, hj]) (Nat.le_of_ble_eq_true rfl) (Nat.le_of_ble_eq_true rfl) dl_8 (fun q1 H2 hP2 hD2 hS2 => ?_)
  have hW2 := sd_RW_push (q := q1) (e := .inl (10, sd_df 10)) (e2 := .inr (10, (List.range 43).map (fun k => defaultValue (sd_ty 10 k)))) hW1 ⟨rfl, sd_RL_map fun k hk => sd_dv_ok (List.all_eq_true.mp (by decide : (List.range 43).all (fun k => sd_tk (sd_ty 10 k)) = true) k hk)⟩
  have hq1 : ((ws1 ++ [(q1, (.inr (10, (List.range 43).map (fun k => defaultValue (sd_ty 10 k))) : va_E))]).map (fun q => q.1))[331]? = some q1 := by
    have hlen : ws1.length = 331 := by rw [hW1.1]; exact sd_k9_len 0
    rw [List.map_append, List.getElem?_append_right (by rw [List.length_map, hlen]; exact Nat.le_refl _), List.length_map, hlen]
    rfl
  refine lv_dup hx hb dl_11 rfl ?_
  refine sd_linit (a := 331) C0 hX hK hN hSS sd_i_X10_init (List.mem_of_getElem? (i := 1030) rfl) (List.mem_of_getElem? (i := 1031) rfl) (List.mem_of_getElem? (i := 126) rfl) rfl rfl rfl (sd_c10_ok (E := [] ++ sd_k9 0) (b := 331) (sd_k9_len 0) (by decide)) hW2 hP2 hD2 hS2 hq1 hl.1 (Nat.le_of_ble_eq_true rfl) dl_12 ⟨Nat.le_of_ble_eq_true rfl, Nat.le_of_ble_eq_true rfl⟩ (fun ws3 H3 locs3 hW3 hP3 hD3 hS3 hex3 => ?_)
  have hq2 : (ws3.map (fun q => q.1))[331]? = some q1 := sd_ext_get hex3 hq1
  have hq3 : (ws3.map (fun q => q.1))[0]? = some q0 := by
    refine sd_ext_get hex3 ?_
    rw [List.map_append]
    exact sd_ext_get ⟨_, rfl⟩ hq0
  rw [List.nil_append, sd_start] at hW3
  refine lv_astore_n (lv' := [(2, .ref q1), (1, .ref q0), (0, .ref b)]) hx hb dl_15 rfl hl (by decide) rfl (fun ls hl => ?_)
  refine lv_iconst (v := 0) hx hb dl_16 (by decide) ?_
  refine lv_istore_n (lv' := [(3, .int 0), (2, .ref q1), (1, .ref q0), (0, .ref b)]) hx hb dl_17 rfl hl (by decide) rfl (fun ls hl => ?_)
  refine W.widen (k := 357) (n := 15544) (Nat.le_of_ble_eq_true rfl) (Nat.le_of_ble_eq_true rfl) ?_
  exact law_loop hL C0 hX hK hN hSS hs (L + 1) 0 0 sd_M0 (Nat.zero_le L) (by omega) nI_0.symm hI ws3 H3 locs3 ls q0 q1 hW3 hP3 hD3 hS3 hq3 hq2 (lv_sub hl [3, 2, 1, 0] rfl)
