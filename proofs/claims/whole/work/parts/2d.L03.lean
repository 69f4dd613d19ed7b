-- X10_goesOut
def sd_q_X10_goesOut : sd_MI := (yX10_goesOut, cX10_goesOut, 4, none, 10, 1, sd_t_X10_goesOut)
set_option maxRecDepth 4000 in
theorem sd_i_X10_goesOut : sd_mL[188]? = some sd_q_X10_goesOut := rfl
def f_X10_goesOut_19 (k56 : Int → sd_M → Option (Int × sd_M)) : Nat → Int → Int → sd_M → Option (Int × sd_M)
  | 0, _, _, _ => none
  | n + 1, v1, v3, M => if (M 341 60) ≤ v3 then (k56 v1 M) else (if 0 ≤ (sd_w ((sd_w (89 + v3)) + 1)) ∧ (sd_w ((sd_w (89 + v3)) + 1)) < 128 then (if 0 ≤ (sd_w (89 + v3)) ∧ (sd_w (89 + v3)) < 128 then (f_X10_goesOut_19 k56 n v1 (sd_w (v3 + 1)) (sd_s M 341 (sd_w (89 + v3)).toNat (M 341 (sd_w ((sd_w (89 + v3)) + 1)).toNat))) else none) else none)
set_option maxRecDepth 4000 in
theorem t_X10_goesOut_19 {X : Nat → List sd_V → List sd_E → sd_A → Prop} {d : Nat} (hd : 1 ≤ d) (k56 : Int → sd_M → Option (Int × sd_M)) (hk56 : ∀ (v1 : Int) (M : sd_M) (Rr : Int × sd_M), k56 v1 M = some Rr → sd_B X d sd_q_X10_goesOut 56 [(0, .inr (.inr (some (331)))), (1, .inl (v1))] [] M (none, sd_rp Rr.2, 0, 0)) : ∀ (n : Nat) (v1 : Int) (v3 : Int) (M : sd_M) (Rr : Int × sd_M), f_X10_goesOut_19 k56 n v1 v3 M = some Rr → sd_B X d sd_q_X10_goesOut 19 [(0, .inr (.inr (some (331)))), (1, .inl (v1)), (3, .inl (v3))] [] M (none, sd_rp Rr.2, 0, 0) := by
  intro n
  induction n with
  | zero => intro v1 v3 M Rr h; cases h
  | succ n ih =>
    intro v1 v3 M Rr h
    rw [f_X10_goesOut_19] at h
    refine sd_b_go 2 (pc2 := 21) (lv2 := [(0, .inr (.inr (some (331)))), (1, .inl (v1)), (3, .inl (v3))]) (st2 := [.inr (.inr (some (331))), .inl (v3)]) rfl ?_
    refine sd_b_gr (k := 20) sd_o_331 rfl rfl rfl ?_
    refine sd_b_go 1 (pc2 := 26) (lv2 := [(0, .inr (.inr (some (331)))), (1, .inl (v1)), (3, .inl (v3))]) (st2 := [.inl (60), .inr (.inr (some (341))), .inl (v3)]) rfl ?_
    refine sd_b_ai (i := 60) (sd_oa sd_o_331 (by decide) (off := 10) (List.mem_of_getElem? (i := 9) rfl)) (by decide) rfl ?_
    by_cases c1 : (M 341 60) ≤ v3
    · rw [if_pos c1] at h
      refine sd_b_ct (c := .ge) (tgt := 56) rfl (decide_eq_true c1) (by decide) ?_
      refine sd_b_wk [(0, .inr (.inr (some (331)))), (1, .inl (v1))] (List.forall_mem_cons.mpr ⟨rfl, (List.forall_mem_cons.mpr ⟨rfl, (fun _ h0 => absurd h0 List.not_mem_nil)⟩)⟩) ?_
      exact hk56 v1 M _ h
    · rw [if_neg c1] at h
      refine sd_b_cf (c := .ge) rfl (decide_eq_false c1) (by decide) ?_
      refine sd_b_go 1 (pc2 := 31) (lv2 := [(0, .inr (.inr (some (331)))), (1, .inl (v1)), (3, .inl (v3))]) (st2 := [.inr (.inr (some (331)))]) rfl ?_
      refine sd_b_gr (k := 20) sd_o_331 rfl rfl rfl ?_
      refine sd_b_go 4 (pc2 := 39) (lv2 := [(0, .inr (.inr (some (331)))), (1, .inl (v1)), (3, .inl (v3))]) (st2 := [.inr (.inr (some (331))), .inl (sd_w (89 + v3)), .inr (.inr (some (341)))]) rfl ?_
      refine sd_b_gr (k := 20) sd_o_331 rfl rfl rfl ?_
      refine sd_b_go 5 (pc2 := 48) (lv2 := [(0, .inr (.inr (some (331)))), (1, .inl (v1)), (3, .inl (v3))]) (st2 := [.inl (sd_w ((sd_w (89 + v3)) + 1)), .inr (.inr (some (341))), .inl (sd_w (89 + v3)), .inr (.inr (some (341)))]) rfl ?_
      obtain ⟨g2, h⟩ := sd_if h
      refine sd_b_ai (sd_oa sd_o_331 (by decide) (off := 10) (List.mem_of_getElem? (i := 9) rfl)) g2 rfl ?_
      obtain ⟨g3, h⟩ := sd_if h
      refine sd_b_si (sd_oa sd_o_331 (by decide) (off := 10) (List.mem_of_getElem? (i := 9) rfl)) g3 rfl ?_
      refine sd_b_go 2 (pc2 := 19) (lv2 := [(3, .inl (sd_w (v3 + 1))), (0, .inr (.inr (some (331)))), (1, .inl (v1))]) (st2 := []) rfl ?_
      refine sd_b_wk [(0, .inr (.inr (some (331)))), (1, .inl (v1)), (3, .inl (sd_w (v3 + 1)))] (List.forall_mem_cons.mpr ⟨rfl, (List.forall_mem_cons.mpr ⟨rfl, (List.forall_mem_cons.mpr ⟨rfl, (fun _ h0 => absurd h0 List.not_mem_nil)⟩)⟩)⟩) ?_
      exact ih v1 (sd_w (v3 + 1)) (sd_s M 341 (sd_w (89 + v3)).toNat (M 341 (sd_w ((sd_w (89 + v3)) + 1)).toNat)) _ h
def f_X10_goesOut_56 (v1 : Int) (M : sd_M) : Option (Int × sd_M) := if 0 ≤ (sd_w (89 + (M 341 60))) ∧ (sd_w (89 + (M 341 60))) < 128 then (if 0 ≤ (sd_w (71 + v1)) ∧ (sd_w (71 + v1)) < 128 then (if 0 ≤ (sd_w (98 + ((sd_s (sd_s M 341 (sd_w (89 + (M 341 60))).toNat 0) 341 (sd_w (71 + v1)).toNat 2) 341 61))) ∧ (sd_w (98 + ((sd_s (sd_s M 341 (sd_w (89 + (M 341 60))).toNat 0) 341 (sd_w (71 + v1)).toNat 2) 341 61))) < 128 then (some (0, sd_s (sd_s (sd_s (sd_s M 341 (sd_w (89 + (M 341 60))).toNat 0) 341 (sd_w (71 + v1)).toNat 2) 341 (sd_w (98 + ((sd_s (sd_s M 341 (sd_w (89 + (M 341 60))).toNat 0) 341 (sd_w (71 + v1)).toNat 2) 341 61))).toNat v1) 341 61 (sd_w (((sd_s (sd_s (sd_s M 341 (sd_w (89 + (M 341 60))).toNat 0) 341 (sd_w (71 + v1)).toNat 2) 341 (sd_w (98 + ((sd_s (sd_s M 341 (sd_w (89 + (M 341 60))).toNat 0) 341 (sd_w (71 + v1)).toNat 2) 341 61))).toNat v1) 341 61) + 1)))) else none) else none) else none
set_option maxRecDepth 4000 in
theorem t_X10_goesOut_56 {X : Nat → List sd_V → List sd_E → sd_A → Prop} {d : Nat} (hd : 1 ≤ d) (v1 : Int) (M : sd_M) (Rr : Int × sd_M) (h : f_X10_goesOut_56 v1 M = some Rr) : sd_B X d sd_q_X10_goesOut 56 [(0, .inr (.inr (some (331)))), (1, .inl (v1))] [] M (none, sd_rp Rr.2, 0, 0) := by
  unfold f_X10_goesOut_56 at h
  refine sd_b_go 1 (pc2 := 57) (lv2 := [(0, .inr (.inr (some (331)))), (1, .inl (v1))]) (st2 := [.inr (.inr (some (331)))]) rfl ?_
  refine sd_b_gr (k := 20) sd_o_331 rfl rfl rfl ?_
  refine sd_b_go 2 (pc2 := 63) (lv2 := [(0, .inr (.inr (some (331)))), (1, .inl (v1))]) (st2 := [.inr (.inr (some (331))), .inl (89), .inr (.inr (some (341)))]) rfl ?_
  refine sd_b_gr (k := 20) sd_o_331 rfl rfl rfl ?_
  refine sd_b_go 1 (pc2 := 68) (lv2 := [(0, .inr (.inr (some (331)))), (1, .inl (v1))]) (st2 := [.inl (60), .inr (.inr (some (341))), .inl (89), .inr (.inr (some (341)))]) rfl ?_
  refine sd_b_ai (i := 60) (sd_oa sd_o_331 (by decide) (off := 10) (List.mem_of_getElem? (i := 9) rfl)) (by decide) rfl ?_
  refine sd_b_go 2 (pc2 := 71) (lv2 := [(0, .inr (.inr (some (331)))), (1, .inl (v1))]) (st2 := [.inl (0), .inl (sd_w (89 + (M 341 60))), .inr (.inr (some (341)))]) rfl ?_
  obtain ⟨g1, h⟩ := sd_if h
  refine sd_b_si (sd_oa sd_o_331 (by decide) (off := 10) (List.mem_of_getElem? (i := 9) rfl)) g1 rfl ?_
  refine sd_b_go 1 (pc2 := 73) (lv2 := [(0, .inr (.inr (some (331)))), (1, .inl (v1))]) (st2 := [.inr (.inr (some (331)))]) rfl ?_
  refine sd_b_gr (k := 20) sd_o_331 rfl rfl rfl ?_
  refine sd_b_go 4 (pc2 := 81) (lv2 := [(0, .inr (.inr (some (331)))), (1, .inl (v1))]) (st2 := [.inl (2), .inl (sd_w (71 + v1)), .inr (.inr (some (341)))]) rfl ?_
  obtain ⟨g2, h⟩ := sd_if h
  refine sd_b_si (sd_oa sd_o_331 (by decide) (off := 10) (List.mem_of_getElem? (i := 9) rfl)) g2 rfl ?_
  refine sd_b_go 1 (pc2 := 83) (lv2 := [(0, .inr (.inr (some (331)))), (1, .inl (v1))]) (st2 := [.inr (.inr (some (331)))]) rfl ?_
  refine sd_b_gr (k := 20) sd_o_331 rfl rfl rfl ?_
  refine sd_b_go 2 (pc2 := 89) (lv2 := [(0, .inr (.inr (some (331)))), (1, .inl (v1))]) (st2 := [.inr (.inr (some (331))), .inl (98), .inr (.inr (some (341)))]) rfl ?_
  refine sd_b_gr (k := 20) sd_o_331 rfl rfl rfl ?_
  refine sd_b_go 1 (pc2 := 94) (lv2 := [(0, .inr (.inr (some (331)))), (1, .inl (v1))]) (st2 := [.inl (61), .inr (.inr (some (341))), .inl (98), .inr (.inr (some (341)))]) rfl ?_
  refine sd_b_ai (i := 61) (sd_oa sd_o_331 (by decide) (off := 10) (List.mem_of_getElem? (i := 9) rfl)) (by decide) rfl ?_
  refine sd_b_go 2 (pc2 := 97) (lv2 := [(0, .inr (.inr (some (331)))), (1, .inl (v1))]) (st2 := [.inl (v1), .inl (sd_w (98 + ((sd_s (sd_s M 341 (sd_w (89 + (M 341 60))).toNat 0) 341 (sd_w (71 + v1)).toNat 2) 341 61))), .inr (.inr (some (341)))]) rfl ?_
  obtain ⟨g3, h⟩ := sd_if h
  refine sd_b_si (sd_oa sd_o_331 (by decide) (off := 10) (List.mem_of_getElem? (i := 9) rfl)) g3 rfl ?_
  refine sd_b_go 1 (pc2 := 99) (lv2 := [(0, .inr (.inr (some (331)))), (1, .inl (v1))]) (st2 := [.inr (.inr (some (331)))]) rfl ?_
  refine sd_b_gr (k := 20) sd_o_331 rfl rfl rfl ?_
  refine sd_b_go 2 (pc2 := 105) (lv2 := [(0, .inr (.inr (some (331)))), (1, .inl (v1))]) (st2 := [.inl (61), .inr (.inr (some (341))), .inl (61), .inr (.inr (some (341)))]) rfl ?_
  refine sd_b_ai (i := 61) (sd_oa sd_o_331 (by decide) (off := 10) (List.mem_of_getElem? (i := 9) rfl)) (by decide) rfl ?_
  refine sd_b_go 2 (pc2 := 108) (lv2 := [(0, .inr (.inr (some (331)))), (1, .inl (v1))]) (st2 := [.inl (sd_w (((sd_s (sd_s (sd_s M 341 (sd_w (89 + (M 341 60))).toNat 0) 341 (sd_w (71 + v1)).toNat 2) 341 (sd_w (98 + ((sd_s (sd_s M 341 (sd_w (89 + (M 341 60))).toNat 0) 341 (sd_w (71 + v1)).toNat 2) 341 61))).toNat v1) 341 61) + 1)), .inl (61), .inr (.inr (some (341)))]) rfl ?_
  refine sd_b_si (i := 61) (sd_oa sd_o_331 (by decide) (off := 10) (List.mem_of_getElem? (i := 9) rfl)) (by decide) rfl ?_
  cases h
  exact sd_b_rt rfl rfl rfl
def f_X10_goesOut (p1 : Int) (M : sd_M) : Option (Int × sd_M) := (f_X10_placeOf p1 M).bind fun r1 => f_X10_goesOut_19 (f_X10_goesOut_56) 4000 p1 r1.1 (sd_s r1.2 341 60 (sd_w ((r1.2 341 60) - 1)))
set_option maxRecDepth 4000 in
theorem t_X10_goesOut {X : Nat → List sd_V → List sd_E → sd_A → Prop} {d : Nat} (hd : 1 ≤ d) (p1 : Int) (M : sd_M) (Rr : Int × sd_M) (h : f_X10_goesOut p1 M = some Rr) : sd_B X d sd_q_X10_goesOut 0 [(0, .inr (.inr (some (331)))), (1, .inl (p1))] [] M (none, sd_rp Rr.2, 0, 0) := by
  unfold f_X10_goesOut at h
  refine sd_b_go 2 (pc2 := 2) (lv2 := [(0, .inr (.inr (some (331)))), (1, .inl (p1))]) (st2 := [.inl (p1), .inr (.inr (some (331)))]) rfl ?_
  obtain ⟨r1, e1, h⟩ := sd_bnd h
  refine sd_b_call [.inr (.inr (some (331))), .inl (p1)] [] rfl rfl sd_i_X10_placeOf rfl rfl (Nat.le_of_ble_eq_true rfl) (sd_rc_v sd_o_331) (m_X10_placeOf (by omega) e1) ?_
  refine sd_b_go 2 (pc2 := 7) (lv2 := [(2, .inl (r1.1)), (0, .inr (.inr (some (331)))), (1, .inl (p1))]) (st2 := [.inr (.inr (some (331)))]) rfl ?_
  refine sd_b_gr (k := 20) sd_o_331 rfl rfl rfl ?_
  refine sd_b_go 2 (pc2 := 13) (lv2 := [(2, .inl (r1.1)), (0, .inr (.inr (some (331)))), (1, .inl (p1))]) (st2 := [.inl (60), .inr (.inr (some (341))), .inl (60), .inr (.inr (some (341)))]) rfl ?_
  refine sd_b_ai (i := 60) (sd_oa sd_o_331 (by decide) (off := 10) (List.mem_of_getElem? (i := 9) rfl)) (by decide) rfl ?_
  refine sd_b_go 2 (pc2 := 16) (lv2 := [(2, .inl (r1.1)), (0, .inr (.inr (some (331)))), (1, .inl (p1))]) (st2 := [.inl (sd_w ((r1.2 341 60) - 1)), .inl (60), .inr (.inr (some (341)))]) rfl ?_
  refine sd_b_si (i := 60) (sd_oa sd_o_331 (by decide) (off := 10) (List.mem_of_getElem? (i := 9) rfl)) (by decide) rfl ?_
  refine sd_b_go 2 (pc2 := 19) (lv2 := [(3, .inl (r1.1)), (2, .inl (r1.1)), (0, .inr (.inr (some (331)))), (1, .inl (p1))]) (st2 := []) rfl ?_
  refine sd_b_wk [(0, .inr (.inr (some (331)))), (1, .inl (p1)), (3, .inl (r1.1))] (List.forall_mem_cons.mpr ⟨rfl, (List.forall_mem_cons.mpr ⟨rfl, (List.forall_mem_cons.mpr ⟨rfl, (fun _ h0 => absurd h0 List.not_mem_nil)⟩)⟩)⟩) ?_
  exact t_X10_goesOut_19 hd (f_X10_goesOut_56) (t_X10_goesOut_56 hd) 4000 p1 r1.1 (sd_s r1.2 341 60 (sd_w ((r1.2 341 60) - 1))) _ h
theorem m_X10_goesOut {X : Nat → List sd_V → List sd_E → sd_A → Prop} {d : Nat} (hd : 2 ≤ d) {p1 : Int} {M : sd_M} {Rr : Int × sd_M} (h : f_X10_goesOut p1 M = some Rr) : sd_Cal X d 188 [.inr (.inr (some (331))), .inl (p1)] (sd_rp M) (none, sd_rp Rr.2, 0, 0) := by
  obtain ⟨d, rfl⟩ : ∃ d2, d = d2 + 1 := ⟨d - 1, by omega⟩
  exact sd_cal_of sd_i_X10_goesOut (Nat.le_of_ble_eq_true rfl) (t_X10_goesOut (by omega) p1 M Rr h)
-- X10_settlesAll
def sd_q_X10_settlesAll : sd_MI := (yX10_settlesAll, cX10_settlesAll, 2, none, 10, 0, sd_t_X10_settlesAll)
set_option maxRecDepth 4000 in
theorem sd_i_X10_settlesAll : sd_mL[189]? = some sd_q_X10_settlesAll := rfl
def f_X10_settlesAll_2 : Nat → Int → sd_M → Option (Int × sd_M)
  | 0, _, _ => none
  | n + 1, v1, M => if (M 341 60) ≤ v1 then (some (0, M)) else (if 0 ≤ (sd_w (89 + v1)) ∧ (sd_w (89 + v1)) < 128 then ((f_X10_hasAll (M 341 (sd_w (89 + v1)).toNat) M).bind fun r3 => if r3.1 = 0 then (if 0 ≤ (sd_w (89 + v1)) ∧ (sd_w (89 + v1)) < 128 then ((f_X10_goesOut ((r3.2) 341 (sd_w (89 + v1)).toNat) r3.2).bind fun r6 => f_X10_settlesAll_2 n 0 r6.2) else none) else (f_X10_settlesAll_2 n (sd_w (v1 + 1)) r3.2)) else none)
set_option maxRecDepth 4000 in
theorem t_X10_settlesAll_2 {X : Nat → List sd_V → List sd_E → sd_A → Prop} {d : Nat} (hd : 5 ≤ d) : ∀ (n : Nat) (v1 : Int) (M : sd_M) (Rr : Int × sd_M), f_X10_settlesAll_2 n v1 M = some Rr → sd_B X d sd_q_X10_settlesAll 2 [(0, .inr (.inr (some (331)))), (1, .inl (v1))] [] M (none, sd_rp Rr.2, 0, 0) := by
  intro n
  induction n with
  | zero => intro v1 M Rr h; cases h
  | succ n ih =>
    intro v1 M Rr h
    rw [f_X10_settlesAll_2] at h
    refine sd_b_go 2 (pc2 := 4) (lv2 := [(0, .inr (.inr (some (331)))), (1, .inl (v1))]) (st2 := [.inr (.inr (some (331))), .inl (v1)]) rfl ?_
    refine sd_b_gr (k := 20) sd_o_331 rfl rfl rfl ?_
    refine sd_b_go 1 (pc2 := 9) (lv2 := [(0, .inr (.inr (some (331)))), (1, .inl (v1))]) (st2 := [.inl (60), .inr (.inr (some (341))), .inl (v1)]) rfl ?_
    refine sd_b_ai (i := 60) (sd_oa sd_o_331 (by decide) (off := 10) (List.mem_of_getElem? (i := 9) rfl)) (by decide) rfl ?_
    by_cases c1 : (M 341 60) ≤ v1
    · rw [if_pos c1] at h
      refine sd_b_ct (c := .ge) (tgt := 53) rfl (decide_eq_true c1) (by decide) ?_
      cases h
      exact sd_b_rt rfl rfl rfl
    · rw [if_neg c1] at h
      refine sd_b_cf (c := .ge) rfl (decide_eq_false c1) (by decide) ?_
      refine sd_b_go 2 (pc2 := 15) (lv2 := [(0, .inr (.inr (some (331)))), (1, .inl (v1))]) (st2 := [.inr (.inr (some (331))), .inr (.inr (some (331)))]) rfl ?_
      refine sd_b_gr (k := 20) sd_o_331 rfl rfl rfl ?_
      refine sd_b_go 3 (pc2 := 22) (lv2 := [(0, .inr (.inr (some (331)))), (1, .inl (v1))]) (st2 := [.inl (sd_w (89 + v1)), .inr (.inr (some (341))), .inr (.inr (some (331)))]) rfl ?_
      obtain ⟨g2, h⟩ := sd_if h
      refine sd_b_ai (sd_oa sd_o_331 (by decide) (off := 10) (List.mem_of_getElem? (i := 9) rfl)) g2 rfl ?_
      obtain ⟨r3, e3, h⟩ := sd_bnd h
      refine sd_b_call [.inr (.inr (some (331))), .inl (M 341 (sd_w (89 + v1)).toNat)] [] rfl rfl sd_i_X10_hasAll rfl rfl (Nat.le_of_ble_eq_true rfl) (sd_rc_v sd_o_331) (m_X10_hasAll (by omega) e3) ?_
      by_cases c4 : r3.1 = 0
      · rw [if_pos c4] at h
        refine sd_b_zt (c := .eq) (tgt := 35) rfl (decide_eq_true c4) (by decide) ?_
        refine sd_b_go 2 (pc2 := 37) (lv2 := [(0, .inr (.inr (some (331)))), (1, .inl (v1))]) (st2 := [.inr (.inr (some (331))), .inr (.inr (some (331)))]) rfl ?_
        refine sd_b_gr (k := 20) sd_o_331 rfl rfl rfl ?_
        refine sd_b_go 3 (pc2 := 44) (lv2 := [(0, .inr (.inr (some (331)))), (1, .inl (v1))]) (st2 := [.inl (sd_w (89 + v1)), .inr (.inr (some (341))), .inr (.inr (some (331)))]) rfl ?_
        obtain ⟨g5, h⟩ := sd_if h
        refine sd_b_ai (sd_oa sd_o_331 (by decide) (off := 10) (List.mem_of_getElem? (i := 9) rfl)) g5 rfl ?_
        obtain ⟨r6, e6, h⟩ := sd_bnd h
        refine sd_b_call [.inr (.inr (some (331))), .inl ((r3.2) 341 (sd_w (89 + v1)).toNat)] [] rfl rfl sd_i_X10_goesOut rfl rfl (Nat.le_of_ble_eq_true rfl) (sd_rc_v sd_o_331) (m_X10_goesOut (by omega) e6) ?_
        refine sd_b_go 3 (pc2 := 2) (lv2 := [(1, .inl (0)), (0, .inr (.inr (some (331))))]) (st2 := []) rfl ?_
        refine sd_b_wk [(0, .inr (.inr (some (331)))), (1, .inl (0))] (List.forall_mem_cons.mpr ⟨rfl, (List.forall_mem_cons.mpr ⟨rfl, (fun _ h0 => absurd h0 List.not_mem_nil)⟩)⟩) ?_
        exact ih 0 r6.2 _ h
      · rw [if_neg c4] at h
        refine sd_b_zf (c := .eq) rfl (decide_eq_false c4) (by decide) ?_
        refine sd_b_go 2 (pc2 := 2) (lv2 := [(1, .inl (sd_w (v1 + 1))), (0, .inr (.inr (some (331))))]) (st2 := []) rfl ?_
        refine sd_b_wk [(0, .inr (.inr (some (331)))), (1, .inl (sd_w (v1 + 1)))] (List.forall_mem_cons.mpr ⟨rfl, (List.forall_mem_cons.mpr ⟨rfl, (fun _ h0 => absurd h0 List.not_mem_nil)⟩)⟩) ?_
        exact ih (sd_w (v1 + 1)) r3.2 _ h
def f_X10_settlesAll (M : sd_M) : Option (Int × sd_M) := f_X10_settlesAll_2 4000 0 M
set_option maxRecDepth 4000 in
theorem t_X10_settlesAll {X : Nat → List sd_V → List sd_E → sd_A → Prop} {d : Nat} (hd : 5 ≤ d) (M : sd_M) (Rr : Int × sd_M) (h : f_X10_settlesAll M = some Rr) : sd_B X d sd_q_X10_settlesAll 0 [(0, .inr (.inr (some (331))))] [] M (none, sd_rp Rr.2, 0, 0) := by
  unfold f_X10_settlesAll at h
  refine sd_b_go 2 (pc2 := 2) (lv2 := [(1, .inl (0)), (0, .inr (.inr (some (331))))]) (st2 := []) rfl ?_
  refine sd_b_wk [(0, .inr (.inr (some (331)))), (1, .inl (0))] (List.forall_mem_cons.mpr ⟨rfl, (List.forall_mem_cons.mpr ⟨rfl, (fun _ h0 => absurd h0 List.not_mem_nil)⟩)⟩) ?_
  exact t_X10_settlesAll_2 hd 4000 0 M _ h
theorem m_X10_settlesAll {X : Nat → List sd_V → List sd_E → sd_A → Prop} {d : Nat} (hd : 6 ≤ d) {M : sd_M} {Rr : Int × sd_M} (h : f_X10_settlesAll M = some Rr) : sd_Cal X d 189 [.inr (.inr (some (331)))] (sd_rp M) (none, sd_rp Rr.2, 0, 0) := by
  obtain ⟨d, rfl⟩ : ∃ d2, d = d2 + 1 := ⟨d - 1, by omega⟩
  exact sd_cal_of sd_i_X10_settlesAll (Nat.le_of_ble_eq_true rfl) (t_X10_settlesAll (by omega) M Rr h)
-- X10_takes
def sd_q_X10_takes : sd_MI := (yX10_takes, cX10_takes, 2, none, 10, 1, sd_t_X10_takes)
set_option maxRecDepth 4000 in
theorem sd_i_X10_takes : sd_mL[190]? = some sd_q_X10_takes := rfl
def f_X10_takes (p1 : Int) (M : sd_M) : Option (Int × sd_M) := if 0 ≤ (sd_w (71 + p1)) ∧ (sd_w (71 + p1)) < 128 then (if 0 ≤ (sd_w (89 + ((sd_s M 341 (sd_w (71 + p1)).toNat 1) 341 60))) ∧ (sd_w (89 + ((sd_s M 341 (sd_w (71 + p1)).toNat 1) 341 60))) < 128 then (some (0, sd_s (sd_s (sd_s M 341 (sd_w (71 + p1)).toNat 1) 341 (sd_w (89 + ((sd_s M 341 (sd_w (71 + p1)).toNat 1) 341 60))).toNat p1) 341 60 (sd_w (((sd_s (sd_s M 341 (sd_w (71 + p1)).toNat 1) 341 (sd_w (89 + ((sd_s M 341 (sd_w (71 + p1)).toNat 1) 341 60))).toNat p1) 341 60) + 1)))) else none) else none
set_option maxRecDepth 4000 in
theorem t_X10_takes {X : Nat → List sd_V → List sd_E → sd_A → Prop} {d : Nat} (hd : 0 ≤ d) (p1 : Int) (M : sd_M) (Rr : Int × sd_M) (h : f_X10_takes p1 M = some Rr) : sd_B X d sd_q_X10_takes 0 [(0, .inr (.inr (some (331)))), (1, .inl (p1))] [] M (none, sd_rp Rr.2, 0, 0) := by
  unfold f_X10_takes at h
  refine sd_b_go 1 (pc2 := 1) (lv2 := [(0, .inr (.inr (some (331)))), (1, .inl (p1))]) (st2 := [.inr (.inr (some (331)))]) rfl ?_
  refine sd_b_gr (k := 20) sd_o_331 rfl rfl rfl ?_
  refine sd_b_go 4 (pc2 := 9) (lv2 := [(0, .inr (.inr (some (331)))), (1, .inl (p1))]) (st2 := [.inl (1), .inl (sd_w (71 + p1)), .inr (.inr (some (341)))]) rfl ?_
  obtain ⟨g1, h⟩ := sd_if h
  refine sd_b_si (sd_oa sd_o_331 (by decide) (off := 10) (List.mem_of_getElem? (i := 9) rfl)) g1 rfl ?_
  refine sd_b_go 1 (pc2 := 11) (lv2 := [(0, .inr (.inr (some (331)))), (1, .inl (p1))]) (st2 := [.inr (.inr (some (331)))]) rfl ?_
  refine sd_b_gr (k := 20) sd_o_331 rfl rfl rfl ?_
  refine sd_b_go 2 (pc2 := 17) (lv2 := [(0, .inr (.inr (some (331)))), (1, .inl (p1))]) (st2 := [.inr (.inr (some (331))), .inl (89), .inr (.inr (some (341)))]) rfl ?_
  refine sd_b_gr (k := 20) sd_o_331 rfl rfl rfl ?_
  refine sd_b_go 1 (pc2 := 22) (lv2 := [(0, .inr (.inr (some (331)))), (1, .inl (p1))]) (st2 := [.inl (60), .inr (.inr (some (341))), .inl (89), .inr (.inr (some (341)))]) rfl ?_
  refine sd_b_ai (i := 60) (sd_oa sd_o_331 (by decide) (off := 10) (List.mem_of_getElem? (i := 9) rfl)) (by decide) rfl ?_
  refine sd_b_go 2 (pc2 := 25) (lv2 := [(0, .inr (.inr (some (331)))), (1, .inl (p1))]) (st2 := [.inl (p1), .inl (sd_w (89 + ((sd_s M 341 (sd_w (71 + p1)).toNat 1) 341 60))), .inr (.inr (some (341)))]) rfl ?_
  obtain ⟨g2, h⟩ := sd_if h
  refine sd_b_si (sd_oa sd_o_331 (by decide) (off := 10) (List.mem_of_getElem? (i := 9) rfl)) g2 rfl ?_
  refine sd_b_go 1 (pc2 := 27) (lv2 := [(0, .inr (.inr (some (331)))), (1, .inl (p1))]) (st2 := [.inr (.inr (some (331)))]) rfl ?_
  refine sd_b_gr (k := 20) sd_o_331 rfl rfl rfl ?_
  refine sd_b_go 2 (pc2 := 33) (lv2 := [(0, .inr (.inr (some (331)))), (1, .inl (p1))]) (st2 := [.inl (60), .inr (.inr (some (341))), .inl (60), .inr (.inr (some (341)))]) rfl ?_
  refine sd_b_ai (i := 60) (sd_oa sd_o_331 (by decide) (off := 10) (List.mem_of_getElem? (i := 9) rfl)) (by decide) rfl ?_
  refine sd_b_go 2 (pc2 := 36) (lv2 := [(0, .inr (.inr (some (331)))), (1, .inl (p1))]) (st2 := [.inl (sd_w (((sd_s (sd_s M 341 (sd_w (71 + p1)).toNat 1) 341 (sd_w (89 + ((sd_s M 341 (sd_w (71 + p1)).toNat 1) 341 60))).toNat p1) 341 60) + 1)), .inl (60), .inr (.inr (some (341)))]) rfl ?_
  refine sd_b_si (i := 60) (sd_oa sd_o_331 (by decide) (off := 10) (List.mem_of_getElem? (i := 9) rfl)) (by decide) rfl ?_
  cases h
  exact sd_b_rt rfl rfl rfl
theorem m_X10_takes {X : Nat → List sd_V → List sd_E → sd_A → Prop} {d : Nat} (hd : 1 ≤ d) {p1 : Int} {M : sd_M} {Rr : Int × sd_M} (h : f_X10_takes p1 M = some Rr) : sd_Cal X d 190 [.inr (.inr (some (331))), .inl (p1)] (sd_rp M) (none, sd_rp Rr.2, 0, 0) := by
  obtain ⟨d, rfl⟩ : ∃ d2, d = d2 + 1 := ⟨d - 1, by omega⟩
  exact sd_cal_of sd_i_X10_takes (Nat.le_of_ble_eq_true rfl) (t_X10_takes (by omega) p1 M Rr h)
-- X10_begins
def sd_q_X10_begins : sd_MI := (yX10_begins, cX10_begins, 2, none, 10, 0, sd_t_X10_begins)
set_option maxRecDepth 4000 in
theorem sd_i_X10_begins : sd_mL[191]? = some sd_q_X10_begins := rfl
def f_X10_begins_2 (k24 : sd_M → Option (Int × sd_M)) : Nat → Int → sd_M → Option (Int × sd_M)
  | 0, _, _ => none
  | n + 1, v1, M => if 49 ≤ v1 then (k24 M) else (if 0 ≤ (sd_w (58 + v1)) ∧ (sd_w (58 + v1)) < 128 then (f_X10_begins_2 k24 n (sd_w (v1 + 1)) (sd_s M 341 (sd_w (58 + v1)).toNat 0)) else none)
set_option maxRecDepth 4000 in
theorem t_X10_begins_2 {X : Nat → List sd_V → List sd_E → sd_A → Prop} {d : Nat} (hd : 0 ≤ d) (k24 : sd_M → Option (Int × sd_M)) (hk24 : ∀ (M : sd_M) (Rr : Int × sd_M), k24 M = some Rr → sd_B X d sd_q_X10_begins 24 [(0, .inr (.inr (some (331))))] [] M (none, sd_rp Rr.2, 0, 0)) : ∀ (n : Nat) (v1 : Int) (M : sd_M) (Rr : Int × sd_M), f_X10_begins_2 k24 n v1 M = some Rr → sd_B X d sd_q_X10_begins 2 [(0, .inr (.inr (some (331)))), (1, .inl (v1))] [] M (none, sd_rp Rr.2, 0, 0) := by
  intro n
  induction n with
  | zero => intro v1 M Rr h; cases h
  | succ n ih =>
    intro v1 M Rr h
    rw [f_X10_begins_2] at h
    refine sd_b_go 2 (pc2 := 5) (lv2 := [(0, .inr (.inr (some (331)))), (1, .inl (v1))]) (st2 := [.inl (49), .inl (v1)]) rfl ?_
    by_cases c1 : 49 ≤ v1
    · rw [if_pos c1] at h
      refine sd_b_ct (c := .ge) (tgt := 24) rfl (decide_eq_true c1) (by decide) ?_
      refine sd_b_wk [(0, .inr (.inr (some (331))))] (List.forall_mem_cons.mpr ⟨rfl, (fun _ h0 => absurd h0 List.not_mem_nil)⟩) ?_
      exact hk24 M _ h
    · rw [if_neg c1] at h
      refine sd_b_cf (c := .ge) rfl (decide_eq_false c1) (by decide) ?_
      refine sd_b_go 1 (pc2 := 9) (lv2 := [(0, .inr (.inr (some (331)))), (1, .inl (v1))]) (st2 := [.inr (.inr (some (331)))]) rfl ?_
      refine sd_b_gr (k := 20) sd_o_331 rfl rfl rfl ?_
      refine sd_b_go 4 (pc2 := 17) (lv2 := [(0, .inr (.inr (some (331)))), (1, .inl (v1))]) (st2 := [.inl (0), .inl (sd_w (58 + v1)), .inr (.inr (some (341)))]) rfl ?_
      obtain ⟨g2, h⟩ := sd_if h
      refine sd_b_si (sd_oa sd_o_331 (by decide) (off := 10) (List.mem_of_getElem? (i := 9) rfl)) g2 rfl ?_
      refine sd_b_go 2 (pc2 := 2) (lv2 := [(1, .inl (sd_w (v1 + 1))), (0, .inr (.inr (some (331))))]) (st2 := []) rfl ?_
      refine sd_b_wk [(0, .inr (.inr (some (331)))), (1, .inl (sd_w (v1 + 1)))] (List.forall_mem_cons.mpr ⟨rfl, (List.forall_mem_cons.mpr ⟨rfl, (fun _ h0 => absurd h0 List.not_mem_nil)⟩)⟩) ?_
      exact ih (sd_w (v1 + 1)) (sd_s M 341 (sd_w (58 + v1)).toNat 0) _ h
def f_X10_begins_39 : Nat → Int → sd_M → Option (Int × sd_M)
  | 0, _, _ => none
  | n + 1, v1, M => if (M 341 2) ≤ v1 then (some (0, M)) else (if 0 ≤ (sd_w (4 + v1)) ∧ (sd_w (4 + v1)) < 128 then (if 0 ≤ (sd_w (62 + v1)) ∧ (sd_w (62 + v1)) < 128 then (f_X10_begins_39 n (sd_w (v1 + 1)) (sd_s M 341 (sd_w (62 + v1)).toNat (M 341 (sd_w (4 + v1)).toNat))) else none) else none)
set_option maxRecDepth 4000 in
theorem t_X10_begins_39 {X : Nat → List sd_V → List sd_E → sd_A → Prop} {d : Nat} (hd : 0 ≤ d) : ∀ (n : Nat) (v1 : Int) (M : sd_M) (Rr : Int × sd_M), f_X10_begins_39 n v1 M = some Rr → sd_B X d sd_q_X10_begins 39 [(0, .inr (.inr (some (331)))), (1, .inl (v1))] [] M (none, sd_rp Rr.2, 0, 0) := by
  intro n
  induction n with
  | zero => intro v1 M Rr h; cases h
  | succ n ih =>
    intro v1 M Rr h
    rw [f_X10_begins_39] at h
    refine sd_b_go 2 (pc2 := 41) (lv2 := [(0, .inr (.inr (some (331)))), (1, .inl (v1))]) (st2 := [.inr (.inr (some (331))), .inl (v1)]) rfl ?_
    refine sd_b_gr (k := 20) sd_o_331 rfl rfl rfl ?_
    refine sd_b_go 1 (pc2 := 45) (lv2 := [(0, .inr (.inr (some (331)))), (1, .inl (v1))]) (st2 := [.inl (2), .inr (.inr (some (341))), .inl (v1)]) rfl ?_
    refine sd_b_ai (i := 2) (sd_oa sd_o_331 (by decide) (off := 10) (List.mem_of_getElem? (i := 9) rfl)) (by decide) rfl ?_
    by_cases c1 : (M 341 2) ≤ v1
    · rw [if_pos c1] at h
      refine sd_b_ct (c := .ge) (tgt := 72) rfl (decide_eq_true c1) (by decide) ?_
      cases h
      exact sd_b_rt rfl rfl rfl
    · rw [if_neg c1] at h
      refine sd_b_cf (c := .ge) rfl (decide_eq_false c1) (by decide) ?_
      refine sd_b_go 1 (pc2 := 50) (lv2 := [(0, .inr (.inr (some (331)))), (1, .inl (v1))]) (st2 := [.inr (.inr (some (331)))]) rfl ?_
      refine sd_b_gr (k := 20) sd_o_331 rfl rfl rfl ?_
      refine sd_b_go 4 (pc2 := 58) (lv2 := [(0, .inr (.inr (some (331)))), (1, .inl (v1))]) (st2 := [.inr (.inr (some (331))), .inl (sd_w (62 + v1)), .inr (.inr (some (341)))]) rfl ?_
      refine sd_b_gr (k := 20) sd_o_331 rfl rfl rfl ?_
      refine sd_b_go 3 (pc2 := 64) (lv2 := [(0, .inr (.inr (some (331)))), (1, .inl (v1))]) (st2 := [.inl (sd_w (4 + v1)), .inr (.inr (some (341))), .inl (sd_w (62 + v1)), .inr (.inr (some (341)))]) rfl ?_
      obtain ⟨g2, h⟩ := sd_if h
      refine sd_b_ai (sd_oa sd_o_331 (by decide) (off := 10) (List.mem_of_getElem? (i := 9) rfl)) g2 rfl ?_
      obtain ⟨g3, h⟩ := sd_if h
      refine sd_b_si (sd_oa sd_o_331 (by decide) (off := 10) (List.mem_of_getElem? (i := 9) rfl)) g3 rfl ?_
      refine sd_b_go 2 (pc2 := 39) (lv2 := [(1, .inl (sd_w (v1 + 1))), (0, .inr (.inr (some (331))))]) (st2 := []) rfl ?_
      refine sd_b_wk [(0, .inr (.inr (some (331)))), (1, .inl (sd_w (v1 + 1)))] (List.forall_mem_cons.mpr ⟨rfl, (List.forall_mem_cons.mpr ⟨rfl, (fun _ h0 => absurd h0 List.not_mem_nil)⟩)⟩) ?_
      exact ih (sd_w (v1 + 1)) (sd_s M 341 (sd_w (62 + v1)).toNat (M 341 (sd_w (4 + v1)).toNat)) _ h
def f_X10_begins_24 (M : sd_M) : Option (Int × sd_M) := f_X10_begins_39 4000 0 (sd_s M 341 59 (M 341 1))
set_option maxRecDepth 4000 in
theorem t_X10_begins_24 {X : Nat → List sd_V → List sd_E → sd_A → Prop} {d : Nat} (hd : 0 ≤ d) (M : sd_M) (Rr : Int × sd_M) (h : f_X10_begins_24 M = some Rr) : sd_B X d sd_q_X10_begins 24 [(0, .inr (.inr (some (331))))] [] M (none, sd_rp Rr.2, 0, 0) := by
  unfold f_X10_begins_24 at h
  refine sd_b_go 1 (pc2 := 25) (lv2 := [(0, .inr (.inr (some (331))))]) (st2 := [.inr (.inr (some (331)))]) rfl ?_
  refine sd_b_gr (k := 20) sd_o_331 rfl rfl rfl ?_
  refine sd_b_go 2 (pc2 := 31) (lv2 := [(0, .inr (.inr (some (331))))]) (st2 := [.inr (.inr (some (331))), .inl (59), .inr (.inr (some (341)))]) rfl ?_
  refine sd_b_gr (k := 20) sd_o_331 rfl rfl rfl ?_
  refine sd_b_go 1 (pc2 := 35) (lv2 := [(0, .inr (.inr (some (331))))]) (st2 := [.inl (1), .inr (.inr (some (341))), .inl (59), .inr (.inr (some (341)))]) rfl ?_
  refine sd_b_ai (i := 1) (sd_oa sd_o_331 (by decide) (off := 10) (List.mem_of_getElem? (i := 9) rfl)) (by decide) rfl ?_
  refine sd_b_si (i := 59) (sd_oa sd_o_331 (by decide) (off := 10) (List.mem_of_getElem? (i := 9) rfl)) (by decide) rfl ?_
  refine sd_b_go 2 (pc2 := 39) (lv2 := [(1, .inl (0)), (0, .inr (.inr (some (331))))]) (st2 := []) rfl ?_
  refine sd_b_wk [(0, .inr (.inr (some (331)))), (1, .inl (0))] (List.forall_mem_cons.mpr ⟨rfl, (List.forall_mem_cons.mpr ⟨rfl, (fun _ h0 => absurd h0 List.not_mem_nil)⟩)⟩) ?_
  exact t_X10_begins_39 hd 4000 0 (sd_s M 341 59 (M 341 1)) _ h
def f_X10_begins (M : sd_M) : Option (Int × sd_M) := f_X10_begins_2 (f_X10_begins_24) 4000 0 M
set_option maxRecDepth 4000 in
theorem t_X10_begins {X : Nat → List sd_V → List sd_E → sd_A → Prop} {d : Nat} (hd : 0 ≤ d) (M : sd_M) (Rr : Int × sd_M) (h : f_X10_begins M = some Rr) : sd_B X d sd_q_X10_begins 0 [(0, .inr (.inr (some (331))))] [] M (none, sd_rp Rr.2, 0, 0) := by
  unfold f_X10_begins at h
  refine sd_b_go 2 (pc2 := 2) (lv2 := [(1, .inl (0)), (0, .inr (.inr (some (331))))]) (st2 := []) rfl ?_
  refine sd_b_wk [(0, .inr (.inr (some (331)))), (1, .inl (0))] (List.forall_mem_cons.mpr ⟨rfl, (List.forall_mem_cons.mpr ⟨rfl, (fun _ h0 => absurd h0 List.not_mem_nil)⟩)⟩) ?_
  exact t_X10_begins_2 hd (f_X10_begins_24) (t_X10_begins_24 hd) 4000 0 M _ h
theorem m_X10_begins {X : Nat → List sd_V → List sd_E → sd_A → Prop} {d : Nat} (hd : 1 ≤ d) {M : sd_M} {Rr : Int × sd_M} (h : f_X10_begins M = some Rr) : sd_Cal X d 191 [.inr (.inr (some (331)))] (sd_rp M) (none, sd_rp Rr.2, 0, 0) := by
  obtain ⟨d, rfl⟩ : ∃ d2, d = d2 + 1 := ⟨d - 1, by omega⟩
  exact sd_cal_of sd_i_X10_begins (Nat.le_of_ble_eq_true rfl) (t_X10_begins (by omega) M Rr h)
-- X10_force
def sd_q_X10_force : sd_MI := (yX10_force, cX10_force, 3, (some .int), 10, 1, sd_t_X10_force)
set_option maxRecDepth 4000 in
theorem sd_i_X10_force : sd_mL[192]? = some sd_q_X10_force := rfl
def f_X10_force_16 (v1 : Int) (M : sd_M) : Option (Int × sd_M) := some (M 331 21, sd_s M 331 21 v1)
set_option maxRecDepth 4000 in
theorem t_X10_force_16 {X : Nat → List sd_V → List sd_E → sd_A → Prop} {d : Nat} (hd : 1 ≤ d) (v1 : Int) (M : sd_M) (Rr : Int × sd_M) (h : f_X10_force_16 v1 M = some Rr) : sd_B X d sd_q_X10_force 16 [(0, .inr (.inr (some (331)))), (1, .inl (v1))] [] M (some (.inl Rr.1), sd_rp Rr.2, 0, 0) := by
  unfold f_X10_force_16 at h
  refine sd_b_go 1 (pc2 := 17) (lv2 := [(0, .inr (.inr (some (331)))), (1, .inl (v1))]) (st2 := [.inr (.inr (some (331)))]) rfl ?_
  refine sd_b_gi (k := 21) sd_o_331 rfl rfl rfl ?_
  refine sd_b_go 3 (pc2 := 23) (lv2 := [(2, .inl (M 331 21)), (0, .inr (.inr (some (331)))), (1, .inl (v1))]) (st2 := [.inl (v1), .inr (.inr (some (331)))]) rfl ?_
  refine sd_b_pi (k := 21) sd_o_331 rfl rfl rfl rfl rfl ?_
  refine sd_b_go 1 (pc2 := 27) (lv2 := [(2, .inl (M 331 21)), (0, .inr (.inr (some (331)))), (1, .inl (v1))]) (st2 := [.inl (M 331 21)]) rfl ?_
  cases h
  exact sd_b_rt rfl rfl rfl
def f_X10_force (p1 : Int) (M : sd_M) : Option (Int × sd_M) := if p1 = ((-1)) then (f_X10_force_16 p1 M) else ((f_X10_isRule p1 M).bind fun r2 => if r2.1 = 0 then (some ((-2), r2.2)) else (f_X10_force_16 p1 r2.2))
set_option maxRecDepth 4000 in
theorem t_X10_force {X : Nat → List sd_V → List sd_E → sd_A → Prop} {d : Nat} (hd : 1 ≤ d) (p1 : Int) (M : sd_M) (Rr : Int × sd_M) (h : f_X10_force p1 M = some Rr) : sd_B X d sd_q_X10_force 0 [(0, .inr (.inr (some (331)))), (1, .inl (p1))] [] M (some (.inl Rr.1), sd_rp Rr.2, 0, 0) := by
  unfold f_X10_force at h
  refine sd_b_go 2 (pc2 := 2) (lv2 := [(0, .inr (.inr (some (331)))), (1, .inl (p1))]) (st2 := [.inl ((-1)), .inl (p1)]) rfl ?_
  by_cases c1 : p1 = ((-1))
  · rw [if_pos c1] at h
    refine sd_b_ct (c := .eq) (tgt := 16) rfl (decide_eq_true c1) (by decide) ?_
    refine sd_b_wk [(0, .inr (.inr (some (331)))), (1, .inl (p1))] (List.forall_mem_cons.mpr ⟨rfl, (List.forall_mem_cons.mpr ⟨rfl, (fun _ h0 => absurd h0 List.not_mem_nil)⟩)⟩) ?_
    exact t_X10_force_16 hd p1 M _ h
  · rw [if_neg c1] at h
    refine sd_b_cf (c := .eq) rfl (decide_eq_false c1) (by decide) ?_
    refine sd_b_go 2 (pc2 := 7) (lv2 := [(0, .inr (.inr (some (331)))), (1, .inl (p1))]) (st2 := [.inl (p1), .inr (.inr (some (331)))]) rfl ?_
    obtain ⟨r2, e2, h⟩ := sd_bnd h
    refine sd_b_call [.inr (.inr (some (331))), .inl (p1)] [] rfl rfl sd_i_X10_isRule rfl rfl (Nat.le_of_ble_eq_true rfl) (sd_rc_v sd_o_331) (m_X10_isRule (by omega) e2) ?_
    by_cases c3 : r2.1 = 0
    · rw [if_pos c3] at h
      refine sd_b_zf (c := .ne) rfl (decide_eq_false (not_not_intro c3)) (by decide) ?_
      refine sd_b_go 1 (pc2 := 15) (lv2 := [(0, .inr (.inr (some (331)))), (1, .inl (p1))]) (st2 := [.inl ((-2))]) rfl ?_
      cases h
      exact sd_b_rt rfl rfl rfl
    · rw [if_neg c3] at h
      refine sd_b_zt (c := .ne) (tgt := 16) rfl (decide_eq_true c3) (by decide) ?_
      refine sd_b_wk [(0, .inr (.inr (some (331)))), (1, .inl (p1))] (List.forall_mem_cons.mpr ⟨rfl, (List.forall_mem_cons.mpr ⟨rfl, (fun _ h0 => absurd h0 List.not_mem_nil)⟩)⟩) ?_
      exact t_X10_force_16 hd p1 r2.2 _ h
theorem m_X10_force {X : Nat → List sd_V → List sd_E → sd_A → Prop} {d : Nat} (hd : 2 ≤ d) {p1 : Int} {M : sd_M} {Rr : Int × sd_M} (h : f_X10_force p1 M = some Rr) : sd_Cal X d 192 [.inr (.inr (some (331))), .inl (p1)] (sd_rp M) (some (.inl Rr.1), sd_rp Rr.2, 0, 0) := by
  obtain ⟨d, rfl⟩ : ∃ d2, d = d2 + 1 := ⟨d - 1, by omega⟩
  exact sd_cal_of sd_i_X10_force (Nat.le_of_ble_eq_true rfl) (t_X10_force (by omega) p1 M Rr h)
-- X10_offer
def sd_q_X10_offer : sd_MI := (yX10_offer, cX10_offer, 3, (some .int), 10, 2, sd_t_X10_offer)
set_option maxRecDepth 4000 in
theorem sd_i_X10_offer : sd_mL[193]? = some sd_q_X10_offer := rfl
def f_X10_offer (p1 : Int) (p2 : Int) (M : sd_M) : Option (Int × sd_M) := (f_X10_isOffer p1 M).bind fun r1 => if r1.1 = 0 then (some ((-1), r1.2)) else (if p2 = 0 then (if 0 ≤ (sd_w (62 + p1)) ∧ (sd_w (62 + p1)) < 128 then (some ((r1.2) 341 (sd_w (62 + p1)).toNat, r1.2)) else none) else (if p2 = 1 then (if 0 ≤ (sd_w (13 + p1)) ∧ (sd_w (13 + p1)) < 128 then (some ((r1.2) 341 (sd_w (13 + p1)).toNat, r1.2)) else none) else (if p2 = 2 then ((f_X10_needsOf p1 r1.2).bind fun r8 => some (r8.1, r8.2)) else (if p2 = 3 then (if 0 ≤ (sd_w (71 + p1)) ∧ (sd_w (71 + p1)) < 128 then (some ((r1.2) 341 (sd_w (71 + p1)).toNat, r1.2)) else none) else (if p2 = 4 then ((f_X10_signedOf p1 r1.2).bind fun r12 => some (r12.1, r12.2)) else (if p2 = 5 then (if 0 ≤ (sd_w (80 + p1)) ∧ (sd_w (80 + p1)) < 128 then (some ((r1.2) 341 (sd_w (80 + p1)).toNat, r1.2)) else none) else (some ((-1), r1.2))))))))
set_option maxRecDepth 4000 in
theorem t_X10_offer {X : Nat → List sd_V → List sd_E → sd_A → Prop} {d : Nat} (hd : 3 ≤ d) (p1 : Int) (p2 : Int) (M : sd_M) (Rr : Int × sd_M) (h : f_X10_offer p1 p2 M = some Rr) : sd_B X d sd_q_X10_offer 0 [(0, .inr (.inr (some (331)))), (1, .inl (p1)), (2, .inl (p2))] [] M (some (.inl Rr.1), sd_rp Rr.2, 0, 0) := by
  unfold f_X10_offer at h
  refine sd_b_go 2 (pc2 := 2) (lv2 := [(0, .inr (.inr (some (331)))), (1, .inl (p1)), (2, .inl (p2))]) (st2 := [.inl (p1), .inr (.inr (some (331)))]) rfl ?_
  obtain ⟨r1, e1, h⟩ := sd_bnd h
  refine sd_b_call [.inr (.inr (some (331))), .inl (p1)] [] rfl rfl sd_i_X10_isOffer rfl rfl (Nat.le_of_ble_eq_true rfl) (sd_rc_v sd_o_331) (m_X10_isOffer (by omega) e1) ?_
  by_cases c2 : r1.1 = 0
  · rw [if_pos c2] at h
    refine sd_b_zf (c := .ne) rfl (decide_eq_false (not_not_intro c2)) (by decide) ?_
    refine sd_b_go 1 (pc2 := 9) (lv2 := [(0, .inr (.inr (some (331)))), (1, .inl (p1)), (2, .inl (p2))]) (st2 := [.inl ((-1))]) rfl ?_
    cases h
    exact sd_b_rt rfl rfl rfl
  · rw [if_neg c2] at h
    refine sd_b_zt (c := .ne) (tgt := 10) rfl (decide_eq_true c2) (by decide) ?_
    refine sd_b_go 1 (pc2 := 11) (lv2 := [(0, .inr (.inr (some (331)))), (1, .inl (p1)), (2, .inl (p2))]) (st2 := [.inl (p2)]) rfl ?_
    by_cases c3 : p2 = 0
    · rw [if_pos c3] at h
      refine sd_b_eq c3 ?_
      refine sd_b_go 1 (pc2 := 48) (lv2 := [(0, .inr (.inr (some (331)))), (1, .inl (p1)), (2, .inl (p2))]) (st2 := []) rfl ?_
      refine sd_b_go 1 (pc2 := 49) (lv2 := [(0, .inr (.inr (some (331)))), (1, .inl (p1)), (2, .inl (p2))]) (st2 := [.inr (.inr (some (331)))]) rfl ?_
      refine sd_b_gr (k := 20) sd_o_331 rfl rfl rfl ?_
      refine sd_b_go 3 (pc2 := 56) (lv2 := [(0, .inr (.inr (some (331)))), (1, .inl (p1)), (2, .inl (p2))]) (st2 := [.inl (sd_w (62 + p1)), .inr (.inr (some (341)))]) rfl ?_
      obtain ⟨g4, h⟩ := sd_if h
      refine sd_b_ai (sd_oa sd_o_331 (by decide) (off := 10) (List.mem_of_getElem? (i := 9) rfl)) g4 rfl ?_
      cases h
      exact sd_b_rt rfl rfl rfl
    · rw [if_neg c3] at h
      by_cases c5 : p2 = 1
      · rw [if_pos c5] at h
        refine sd_b_eq c5 ?_
        refine sd_b_go 1 (pc2 := 58) (lv2 := [(0, .inr (.inr (some (331)))), (1, .inl (p1)), (2, .inl (p2))]) (st2 := []) rfl ?_
        refine sd_b_go 1 (pc2 := 59) (lv2 := [(0, .inr (.inr (some (331)))), (1, .inl (p1)), (2, .inl (p2))]) (st2 := [.inr (.inr (some (331)))]) rfl ?_
        refine sd_b_gr (k := 20) sd_o_331 rfl rfl rfl ?_
        refine sd_b_go 3 (pc2 := 66) (lv2 := [(0, .inr (.inr (some (331)))), (1, .inl (p1)), (2, .inl (p2))]) (st2 := [.inl (sd_w (13 + p1)), .inr (.inr (some (341)))]) rfl ?_
        obtain ⟨g6, h⟩ := sd_if h
        refine sd_b_ai (sd_oa sd_o_331 (by decide) (off := 10) (List.mem_of_getElem? (i := 9) rfl)) g6 rfl ?_
        cases h
        exact sd_b_rt rfl rfl rfl
      · rw [if_neg c5] at h
        by_cases c7 : p2 = 2
        · rw [if_pos c7] at h
          refine sd_b_eq c7 ?_
          refine sd_b_go 1 (pc2 := 68) (lv2 := [(0, .inr (.inr (some (331)))), (1, .inl (p1)), (2, .inl (p2))]) (st2 := []) rfl ?_
          refine sd_b_go 2 (pc2 := 70) (lv2 := [(0, .inr (.inr (some (331)))), (1, .inl (p1)), (2, .inl (p2))]) (st2 := [.inl (p1), .inr (.inr (some (331)))]) rfl ?_
          obtain ⟨r8, e8, h⟩ := sd_bnd h
          refine sd_b_call [.inr (.inr (some (331))), .inl (p1)] [] rfl rfl sd_i_X10_needsOf rfl rfl (Nat.le_of_ble_eq_true rfl) (sd_rc_v sd_o_331) (m_X10_needsOf (by omega) e8) ?_
          cases h
          exact sd_b_rt rfl rfl rfl
        · rw [if_neg c7] at h
          by_cases c9 : p2 = 3
          · rw [if_pos c9] at h
            refine sd_b_eq c9 ?_
            refine sd_b_go 1 (pc2 := 74) (lv2 := [(0, .inr (.inr (some (331)))), (1, .inl (p1)), (2, .inl (p2))]) (st2 := []) rfl ?_
            refine sd_b_go 1 (pc2 := 75) (lv2 := [(0, .inr (.inr (some (331)))), (1, .inl (p1)), (2, .inl (p2))]) (st2 := [.inr (.inr (some (331)))]) rfl ?_
            refine sd_b_gr (k := 20) sd_o_331 rfl rfl rfl ?_
            refine sd_b_go 3 (pc2 := 82) (lv2 := [(0, .inr (.inr (some (331)))), (1, .inl (p1)), (2, .inl (p2))]) (st2 := [.inl (sd_w (71 + p1)), .inr (.inr (some (341)))]) rfl ?_
            obtain ⟨g10, h⟩ := sd_if h
            refine sd_b_ai (sd_oa sd_o_331 (by decide) (off := 10) (List.mem_of_getElem? (i := 9) rfl)) g10 rfl ?_
            cases h
            exact sd_b_rt rfl rfl rfl
          · rw [if_neg c9] at h
            by_cases c11 : p2 = 4
            · rw [if_pos c11] at h
              refine sd_b_eq c11 ?_
              refine sd_b_go 1 (pc2 := 84) (lv2 := [(0, .inr (.inr (some (331)))), (1, .inl (p1)), (2, .inl (p2))]) (st2 := []) rfl ?_
              refine sd_b_go 2 (pc2 := 86) (lv2 := [(0, .inr (.inr (some (331)))), (1, .inl (p1)), (2, .inl (p2))]) (st2 := [.inl (p1), .inr (.inr (some (331)))]) rfl ?_
              obtain ⟨r12, e12, h⟩ := sd_bnd h
              refine sd_b_call [.inr (.inr (some (331))), .inl (p1)] [] rfl rfl sd_i_X10_signedOf rfl rfl (Nat.le_of_ble_eq_true rfl) (sd_rc_v sd_o_331) (m_X10_signedOf (by omega) e12) ?_
              cases h
              exact sd_b_rt rfl rfl rfl
            · rw [if_neg c11] at h
              by_cases c13 : p2 = 5
              · rw [if_pos c13] at h
                refine sd_b_eq c13 ?_
                refine sd_b_go 1 (pc2 := 90) (lv2 := [(0, .inr (.inr (some (331)))), (1, .inl (p1)), (2, .inl (p2))]) (st2 := []) rfl ?_
                refine sd_b_go 1 (pc2 := 91) (lv2 := [(0, .inr (.inr (some (331)))), (1, .inl (p1)), (2, .inl (p2))]) (st2 := [.inr (.inr (some (331)))]) rfl ?_
                refine sd_b_gr (k := 20) sd_o_331 rfl rfl rfl ?_
                refine sd_b_go 3 (pc2 := 98) (lv2 := [(0, .inr (.inr (some (331)))), (1, .inl (p1)), (2, .inl (p2))]) (st2 := [.inl (sd_w (80 + p1)), .inr (.inr (some (341)))]) rfl ?_
                obtain ⟨g14, h⟩ := sd_if h
                refine sd_b_ai (sd_oa sd_o_331 (by decide) (off := 10) (List.mem_of_getElem? (i := 9) rfl)) g14 rfl ?_
                cases h
                exact sd_b_rt rfl rfl rfl
              · rw [if_neg c13] at h
                refine sd_b_td (tgt := 100) rfl (by omega) (by decide) ?_
                refine sd_b_go 1 (pc2 := 101) (lv2 := [(0, .inr (.inr (some (331)))), (1, .inl (p1)), (2, .inl (p2))]) (st2 := [.inl ((-1))]) rfl ?_
                cases h
                exact sd_b_rt rfl rfl rfl
theorem m_X10_offer {X : Nat → List sd_V → List sd_E → sd_A → Prop} {d : Nat} (hd : 4 ≤ d) {p1 : Int} {p2 : Int} {M : sd_M} {Rr : Int × sd_M} (h : f_X10_offer p1 p2 M = some Rr) : sd_Cal X d 193 [.inr (.inr (some (331))), .inl (p1), .inl (p2)] (sd_rp M) (some (.inl Rr.1), sd_rp Rr.2, 0, 0) := by
  obtain ⟨d, rfl⟩ : ∃ d2, d = d2 + 1 := ⟨d - 1, by omega⟩
  exact sd_cal_of sd_i_X10_offer (Nat.le_of_ble_eq_true rfl) (t_X10_offer (by omega) p1 p2 M Rr h)
-- X10_need
def sd_q_X10_need : sd_MI := (yX10_need, cX10_need, 6, (some .int), 10, 3, sd_t_X10_need)
set_option maxRecDepth 4000 in
theorem sd_i_X10_need : sd_mL[194]? = some sd_q_X10_need := rfl
def f_X10_need_117 (k32 : Int → Int → Int → Int → sd_M → Option (Int × sd_M)) (k67 : Int → Int → Int → sd_M → Option (Int × sd_M)) (v1 : Int) (v3 : Int) (v4 : Int) (v5 : Int) (M : sd_M) : Option (Int × sd_M) := k32 v1 v3 v4 (sd_w (v5 + 1)) M
set_option maxRecDepth 4000 in
theorem t_X10_need_117 {X : Nat → List sd_V → List sd_E → sd_A → Prop} {d : Nat} (hd : 4 ≤ d) (k32 : Int → Int → Int → Int → sd_M → Option (Int × sd_M)) (k67 : Int → Int → Int → sd_M → Option (Int × sd_M)) (hk32 : ∀ (v1 : Int) (v3 : Int) (v4 : Int) (v5 : Int) (M : sd_M) (Rr : Int × sd_M), k32 v1 v3 v4 v5 M = some Rr → sd_B X d sd_q_X10_need 32 [(0, .inr (.inr (some (331)))), (1, .inl (v1)), (3, .inl (v3)), (4, .inl (v4)), (5, .inl (v5))] [] M (some (.inl Rr.1), sd_rp Rr.2, 0, 0)) (hk67 : ∀ (v1 : Int) (v3 : Int) (v5 : Int) (M : sd_M) (Rr : Int × sd_M), k67 v1 v3 v5 M = some Rr → sd_B X d sd_q_X10_need 67 [(0, .inr (.inr (some (331)))), (1, .inl (v1)), (3, .inl (v3)), (5, .inl (v5))] [] M (some (.inl Rr.1), sd_rp Rr.2, 0, 0)) (v1 : Int) (v3 : Int) (v4 : Int) (v5 : Int) (M : sd_M) (Rr : Int × sd_M) (h : f_X10_need_117 k32 k67 v1 v3 v4 v5 M = some Rr) : sd_B X d sd_q_X10_need 117 [(0, .inr (.inr (some (331)))), (1, .inl (v1)), (3, .inl (v3)), (4, .inl (v4)), (5, .inl (v5))] [] M (some (.inl Rr.1), sd_rp Rr.2, 0, 0) := by
  unfold f_X10_need_117 at h
  refine sd_b_go 2 (pc2 := 32) (lv2 := [(5, .inl (sd_w (v5 + 1))), (0, .inr (.inr (some (331)))), (1, .inl (v1)), (3, .inl (v3)), (4, .inl (v4))]) (st2 := []) rfl ?_
  refine sd_b_wk [(0, .inr (.inr (some (331)))), (1, .inl (v1)), (3, .inl (v3)), (4, .inl (v4)), (5, .inl (sd_w (v5 + 1)))] (List.forall_mem_cons.mpr ⟨rfl, (List.forall_mem_cons.mpr ⟨rfl, (List.forall_mem_cons.mpr ⟨rfl, (List.forall_mem_cons.mpr ⟨rfl, (List.forall_mem_cons.mpr ⟨rfl, (fun _ h0 => absurd h0 List.not_mem_nil)⟩)⟩)⟩)⟩)⟩) ?_
  exact hk32 v1 v3 v4 (sd_w (v5 + 1)) M _ h
def f_X10_need_32 (k67 : Int → Int → Int → sd_M → Option (Int × sd_M)) : Nat → Int → Int → Int → Int → sd_M → Option (Int × sd_M)
  | 0, _, _, _, _, _ => none
  | n + 1, v1, v3, v4, v5, M => if (M 341 3) ≤ v5 then (some ((-1), M)) else (if 0 ≤ (sd_w (22 + (sd_w (3 * v5)))) ∧ (sd_w (22 + (sd_w (3 * v5)))) < 128 then (if (M 341 (sd_w (22 + (sd_w (3 * v5)))).toNat) = v1 then (if v4 = 0 then (k67 v1 v3 v5 M) else (f_X10_need_117 (f_X10_need_32 k67 n) k67 v1 v3 (sd_w (v4 + (-1))) v5 M)) else (f_X10_need_117 (f_X10_need_32 k67 n) k67 v1 v3 v4 v5 M)) else none)
set_option maxRecDepth 4000 in
theorem t_X10_need_32 {X : Nat → List sd_V → List sd_E → sd_A → Prop} {d : Nat} (hd : 4 ≤ d) (k67 : Int → Int → Int → sd_M → Option (Int × sd_M)) (hk67 : ∀ (v1 : Int) (v3 : Int) (v5 : Int) (M : sd_M) (Rr : Int × sd_M), k67 v1 v3 v5 M = some Rr → sd_B X d sd_q_X10_need 67 [(0, .inr (.inr (some (331)))), (1, .inl (v1)), (3, .inl (v3)), (5, .inl (v5))] [] M (some (.inl Rr.1), sd_rp Rr.2, 0, 0)) : ∀ (n : Nat) (v1 : Int) (v3 : Int) (v4 : Int) (v5 : Int) (M : sd_M) (Rr : Int × sd_M), f_X10_need_32 k67 n v1 v3 v4 v5 M = some Rr → sd_B X d sd_q_X10_need 32 [(0, .inr (.inr (some (331)))), (1, .inl (v1)), (3, .inl (v3)), (4, .inl (v4)), (5, .inl (v5))] [] M (some (.inl Rr.1), sd_rp Rr.2, 0, 0) := by
  intro n
  induction n with
  | zero => intro v1 v3 v4 v5 M Rr h; cases h
  | succ n ih =>
    intro v1 v3 v4 v5 M Rr h
    rw [f_X10_need_32] at h
    refine sd_b_go 2 (pc2 := 35) (lv2 := [(0, .inr (.inr (some (331)))), (1, .inl (v1)), (3, .inl (v3)), (4, .inl (v4)), (5, .inl (v5))]) (st2 := [.inr (.inr (some (331))), .inl (v5)]) rfl ?_
    refine sd_b_gr (k := 20) sd_o_331 rfl rfl rfl ?_
    refine sd_b_go 1 (pc2 := 39) (lv2 := [(0, .inr (.inr (some (331)))), (1, .inl (v1)), (3, .inl (v3)), (4, .inl (v4)), (5, .inl (v5))]) (st2 := [.inl (3), .inr (.inr (some (341))), .inl (v5)]) rfl ?_
    refine sd_b_ai (i := 3) (sd_oa sd_o_331 (by decide) (off := 10) (List.mem_of_getElem? (i := 9) rfl)) (by decide) rfl ?_
    by_cases c1 : (M 341 3) ≤ v5
    · rw [if_pos c1] at h
      refine sd_b_ct (c := .ge) (tgt := 123) rfl (decide_eq_true c1) (by decide) ?_
      refine sd_b_go 1 (pc2 := 124) (lv2 := [(0, .inr (.inr (some (331)))), (1, .inl (v1)), (3, .inl (v3)), (4, .inl (v4)), (5, .inl (v5))]) (st2 := [.inl ((-1))]) rfl ?_
      cases h
      exact sd_b_rt rfl rfl rfl
    · rw [if_neg c1] at h
      refine sd_b_cf (c := .ge) rfl (decide_eq_false c1) (by decide) ?_
      refine sd_b_go 1 (pc2 := 44) (lv2 := [(0, .inr (.inr (some (331)))), (1, .inl (v1)), (3, .inl (v3)), (4, .inl (v4)), (5, .inl (v5))]) (st2 := [.inr (.inr (some (331)))]) rfl ?_
      refine sd_b_gr (k := 20) sd_o_331 rfl rfl rfl ?_
      refine sd_b_go 5 (pc2 := 54) (lv2 := [(0, .inr (.inr (some (331)))), (1, .inl (v1)), (3, .inl (v3)), (4, .inl (v4)), (5, .inl (v5))]) (st2 := [.inl (sd_w (22 + (sd_w (3 * v5)))), .inr (.inr (some (341)))]) rfl ?_
      obtain ⟨g2, h⟩ := sd_if h
      refine sd_b_ai (sd_oa sd_o_331 (by decide) (off := 10) (List.mem_of_getElem? (i := 9) rfl)) g2 rfl ?_
      refine sd_b_go 1 (pc2 := 56) (lv2 := [(0, .inr (.inr (some (331)))), (1, .inl (v1)), (3, .inl (v3)), (4, .inl (v4)), (5, .inl (v5))]) (st2 := [.inl (v1), .inl (M 341 (sd_w (22 + (sd_w (3 * v5)))).toNat)]) rfl ?_
      by_cases c3 : (M 341 (sd_w (22 + (sd_w (3 * v5)))).toNat) = v1
      · rw [if_pos c3] at h
        refine sd_b_ct (c := .eq) (tgt := 62) rfl (decide_eq_true c3) (by decide) ?_
        refine sd_b_go 1 (pc2 := 64) (lv2 := [(0, .inr (.inr (some (331)))), (1, .inl (v1)), (3, .inl (v3)), (4, .inl (v4)), (5, .inl (v5))]) (st2 := [.inl (v4)]) rfl ?_
        by_cases c4 : v4 = 0
        · rw [if_pos c4] at h
          refine sd_b_zf (c := .ne) rfl (decide_eq_false (not_not_intro c4)) (by decide) ?_
          refine sd_b_wk [(0, .inr (.inr (some (331)))), (1, .inl (v1)), (3, .inl (v3)), (5, .inl (v5))] (List.forall_mem_cons.mpr ⟨rfl, (List.forall_mem_cons.mpr ⟨rfl, (List.forall_mem_cons.mpr ⟨rfl, (List.forall_mem_cons.mpr ⟨rfl, (fun _ h0 => absurd h0 List.not_mem_nil)⟩)⟩)⟩)⟩) ?_
          exact hk67 v1 v3 v5 M _ h
        · rw [if_neg c4] at h
          refine sd_b_zt (c := .ne) (tgt := 114) rfl (decide_eq_true c4) (by decide) ?_
          refine sd_b_go 1 (pc2 := 117) (lv2 := [(4, .inl (sd_w (v4 + (-1)))), (0, .inr (.inr (some (331)))), (1, .inl (v1)), (3, .inl (v3)), (5, .inl (v5))]) (st2 := []) rfl ?_
          refine sd_b_wk [(0, .inr (.inr (some (331)))), (1, .inl (v1)), (3, .inl (v3)), (4, .inl (sd_w (v4 + (-1)))), (5, .inl (v5))] (List.forall_mem_cons.mpr ⟨rfl, (List.forall_mem_cons.mpr ⟨rfl, (List.forall_mem_cons.mpr ⟨rfl, (List.forall_mem_cons.mpr ⟨rfl, (List.forall_mem_cons.mpr ⟨rfl, (fun _ h0 => absurd h0 List.not_mem_nil)⟩)⟩)⟩)⟩)⟩) ?_
          exact t_X10_need_117 hd (f_X10_need_32 k67 n) k67 ih hk67 v1 v3 (sd_w (v4 + (-1))) v5 M _ h
      · rw [if_neg c3] at h
        refine sd_b_cf (c := .eq) rfl (decide_eq_false c3) (by decide) ?_
        refine sd_b_go 1 (pc2 := 117) (lv2 := [(0, .inr (.inr (some (331)))), (1, .inl (v1)), (3, .inl (v3)), (4, .inl (v4)), (5, .inl (v5))]) (st2 := []) rfl ?_
        refine sd_b_wk [(0, .inr (.inr (some (331)))), (1, .inl (v1)), (3, .inl (v3)), (4, .inl (v4)), (5, .inl (v5))] (List.forall_mem_cons.mpr ⟨rfl, (List.forall_mem_cons.mpr ⟨rfl, (List.forall_mem_cons.mpr ⟨rfl, (List.forall_mem_cons.mpr ⟨rfl, (List.forall_mem_cons.mpr ⟨rfl, (fun _ h0 => absurd h0 List.not_mem_nil)⟩)⟩)⟩)⟩)⟩) ?_
        exact t_X10_need_117 hd (f_X10_need_32 k67 n) k67 ih hk67 v1 v3 v4 v5 M _ h
def f_X10_need_67 (v1 : Int) (v3 : Int) (v5 : Int) (M : sd_M) : Option (Int × sd_M) := if 2 ≤ v3 then ((f_X10_isLine v1 M).bind fun r2 => if r2.1 = 0 then (some (0, r2.2)) else ((f_X10_holds v5 r2.2).bind fun r4 => if r4.1 = 0 then (some (0, r4.2)) else (some (1, r4.2)))) else (if 0 ≤ (sd_w ((sd_w ((sd_w (22 + (sd_w (3 * v5)))) + 1)) + v3)) ∧ (sd_w ((sd_w ((sd_w (22 + (sd_w (3 * v5)))) + 1)) + v3)) < 128 then (some (M 341 (sd_w ((sd_w ((sd_w (22 + (sd_w (3 * v5)))) + 1)) + v3)).toNat, M)) else none)
set_option maxRecDepth 4000 in
theorem t_X10_need_67 {X : Nat → List sd_V → List sd_E → sd_A → Prop} {d : Nat} (hd : 4 ≤ d) (v1 : Int) (v3 : Int) (v5 : Int) (M : sd_M) (Rr : Int × sd_M) (h : f_X10_need_67 v1 v3 v5 M = some Rr) : sd_B X d sd_q_X10_need 67 [(0, .inr (.inr (some (331)))), (1, .inl (v1)), (3, .inl (v3)), (5, .inl (v5))] [] M (some (.inl Rr.1), sd_rp Rr.2, 0, 0) := by
  unfold f_X10_need_67 at h
  refine sd_b_go 2 (pc2 := 69) (lv2 := [(0, .inr (.inr (some (331)))), (1, .inl (v1)), (3, .inl (v3)), (5, .inl (v5))]) (st2 := [.inl (2), .inl (v3)]) rfl ?_
  by_cases c1 : 2 ≤ v3
  · rw [if_pos c1] at h
    refine sd_b_ct (c := .ge) (tgt := 91) rfl (decide_eq_true c1) (by decide) ?_
    refine sd_b_go 2 (pc2 := 93) (lv2 := [(0, .inr (.inr (some (331)))), (1, .inl (v1)), (3, .inl (v3)), (5, .inl (v5))]) (st2 := [.inl (v1), .inr (.inr (some (331)))]) rfl ?_
    obtain ⟨r2, e2, h⟩ := sd_bnd h
    refine sd_b_call [.inr (.inr (some (331))), .inl (v1)] [] rfl rfl sd_i_X10_isLine rfl rfl (Nat.le_of_ble_eq_true rfl) (sd_rc_v sd_o_331) (m_X10_isLine (by omega) e2) ?_
    by_cases c3 : r2.1 = 0
    · rw [if_pos c3] at h
      refine sd_b_zt (c := .eq) (tgt := 112) rfl (decide_eq_true c3) (by decide) ?_
      refine sd_b_go 1 (pc2 := 113) (lv2 := [(0, .inr (.inr (some (331)))), (1, .inl (v1)), (3, .inl (v3)), (5, .inl (v5))]) (st2 := [.inl (0)]) rfl ?_
      cases h
      exact sd_b_rt rfl rfl rfl
    · rw [if_neg c3] at h
      refine sd_b_zf (c := .eq) rfl (decide_eq_false c3) (by decide) ?_
      refine sd_b_go 2 (pc2 := 102) (lv2 := [(0, .inr (.inr (some (331)))), (1, .inl (v1)), (3, .inl (v3)), (5, .inl (v5))]) (st2 := [.inl (v5), .inr (.inr (some (331)))]) rfl ?_
      obtain ⟨r4, e4, h⟩ := sd_bnd h
      refine sd_b_call [.inr (.inr (some (331))), .inl (v5)] [] rfl rfl sd_i_X10_holds rfl rfl (Nat.le_of_ble_eq_true rfl) (sd_rc_v sd_o_331) (m_X10_holds (by omega) e4) ?_
      by_cases c5 : r4.1 = 0
      · rw [if_pos c5] at h
        refine sd_b_zt (c := .eq) (tgt := 112) rfl (decide_eq_true c5) (by decide) ?_
        refine sd_b_go 1 (pc2 := 113) (lv2 := [(0, .inr (.inr (some (331)))), (1, .inl (v1)), (3, .inl (v3)), (5, .inl (v5))]) (st2 := [.inl (0)]) rfl ?_
        cases h
        exact sd_b_rt rfl rfl rfl
      · rw [if_neg c5] at h
        refine sd_b_zf (c := .eq) rfl (decide_eq_false c5) (by decide) ?_
        refine sd_b_go 2 (pc2 := 113) (lv2 := [(0, .inr (.inr (some (331)))), (1, .inl (v1)), (3, .inl (v3)), (5, .inl (v5))]) (st2 := [.inl (1)]) rfl ?_
        cases h
        exact sd_b_rt rfl rfl rfl
  · rw [if_neg c1] at h
    refine sd_b_cf (c := .ge) rfl (decide_eq_false c1) (by decide) ?_
    refine sd_b_go 1 (pc2 := 73) (lv2 := [(0, .inr (.inr (some (331)))), (1, .inl (v1)), (3, .inl (v3)), (5, .inl (v5))]) (st2 := [.inr (.inr (some (331)))]) rfl ?_
    refine sd_b_gr (k := 20) sd_o_331 rfl rfl rfl ?_
    refine sd_b_go 9 (pc2 := 87) (lv2 := [(0, .inr (.inr (some (331)))), (1, .inl (v1)), (3, .inl (v3)), (5, .inl (v5))]) (st2 := [.inl (sd_w ((sd_w ((sd_w (22 + (sd_w (3 * v5)))) + 1)) + v3)), .inr (.inr (some (341)))]) rfl ?_
    obtain ⟨g6, h⟩ := sd_if h
    refine sd_b_ai (sd_oa sd_o_331 (by decide) (off := 10) (List.mem_of_getElem? (i := 9) rfl)) g6 rfl ?_
    refine sd_b_go 1 (pc2 := 113) (lv2 := [(0, .inr (.inr (some (331)))), (1, .inl (v1)), (3, .inl (v3)), (5, .inl (v5))]) (st2 := [.inl (M 341 (sd_w ((sd_w ((sd_w (22 + (sd_w (3 * v5)))) + 1)) + v3)).toNat)]) rfl ?_
    cases h
    exact sd_b_rt rfl rfl rfl
def f_X10_need (p1 : Int) (p2 : Int) (p3 : Int) (M : sd_M) : Option (Int × sd_M) := (f_X10_isOffer p1 M).bind fun r1 => if r1.1 = 0 then (some ((-1), r1.2)) else (if p2 < 0 then (some ((-1), r1.2)) else ((f_X10_in p3 0 2 r1.2).bind fun r4 => if r4.1 = 0 then (some ((-1), r4.2)) else (f_X10_need_32 (f_X10_need_67) 4000 p1 p3 p2 0 r4.2)))
set_option maxRecDepth 4000 in
theorem t_X10_need {X : Nat → List sd_V → List sd_E → sd_A → Prop} {d : Nat} (hd : 4 ≤ d) (p1 : Int) (p2 : Int) (p3 : Int) (M : sd_M) (Rr : Int × sd_M) (h : f_X10_need p1 p2 p3 M = some Rr) : sd_B X d sd_q_X10_need 0 [(0, .inr (.inr (some (331)))), (1, .inl (p1)), (2, .inl (p2)), (3, .inl (p3))] [] M (some (.inl Rr.1), sd_rp Rr.2, 0, 0) := by
  unfold f_X10_need at h
  refine sd_b_go 2 (pc2 := 2) (lv2 := [(0, .inr (.inr (some (331)))), (1, .inl (p1)), (2, .inl (p2)), (3, .inl (p3))]) (st2 := [.inl (p1), .inr (.inr (some (331)))]) rfl ?_
  obtain ⟨r1, e1, h⟩ := sd_bnd h
  refine sd_b_call [.inr (.inr (some (331))), .inl (p1)] [] rfl rfl sd_i_X10_isOffer rfl rfl (Nat.le_of_ble_eq_true rfl) (sd_rc_v sd_o_331) (m_X10_isOffer (by omega) e1) ?_
  by_cases c2 : r1.1 = 0
  · rw [if_pos c2] at h
    refine sd_b_zt (c := .eq) (tgt := 24) rfl (decide_eq_true c2) (by decide) ?_
    refine sd_b_go 1 (pc2 := 25) (lv2 := [(0, .inr (.inr (some (331)))), (1, .inl (p1)), (2, .inl (p2)), (3, .inl (p3))]) (st2 := [.inl ((-1))]) rfl ?_
    cases h
    exact sd_b_rt rfl rfl rfl
  · rw [if_neg c2] at h
    refine sd_b_zf (c := .eq) rfl (decide_eq_false c2) (by decide) ?_
    refine sd_b_go 1 (pc2 := 9) (lv2 := [(0, .inr (.inr (some (331)))), (1, .inl (p1)), (2, .inl (p2)), (3, .inl (p3))]) (st2 := [.inl (p2)]) rfl ?_
    by_cases c3 : p2 < 0
    · rw [if_pos c3] at h
      refine sd_b_zt (c := .lt) (tgt := 24) rfl (decide_eq_true c3) (by decide) ?_
      refine sd_b_go 1 (pc2 := 25) (lv2 := [(0, .inr (.inr (some (331)))), (1, .inl (p1)), (2, .inl (p2)), (3, .inl (p3))]) (st2 := [.inl ((-1))]) rfl ?_
      cases h
      exact sd_b_rt rfl rfl rfl
    · rw [if_neg c3] at h
      refine sd_b_zf (c := .lt) rfl (decide_eq_false c3) (by decide) ?_
      refine sd_b_go 4 (pc2 := 18) (lv2 := [(0, .inr (.inr (some (331)))), (1, .inl (p1)), (2, .inl (p2)), (3, .inl (p3))]) (st2 := [.inr (.inl (2)), .inr (.inl (0)), .inr (.inl (p3))]) rfl ?_
      obtain ⟨r4, e4, h⟩ := sd_bnd h
      refine sd_b_call [.inr (.inl (p3)), .inr (.inl (0)), .inr (.inl (2))] [] rfl rfl sd_i_X10_in rfl rfl (Nat.le_of_ble_eq_true rfl) rfl (m_X10_in (by omega) e4) ?_
      by_cases c5 : r4.1 = 0
      · rw [if_pos c5] at h
        refine sd_b_zf (c := .ne) rfl (decide_eq_false (not_not_intro c5)) (by decide) ?_
        refine sd_b_go 1 (pc2 := 25) (lv2 := [(0, .inr (.inr (some (331)))), (1, .inl (p1)), (2, .inl (p2)), (3, .inl (p3))]) (st2 := [.inl ((-1))]) rfl ?_
        cases h
        exact sd_b_rt rfl rfl rfl
      · rw [if_neg c5] at h
        refine sd_b_zt (c := .ne) (tgt := 26) rfl (decide_eq_true c5) (by decide) ?_
        refine sd_b_go 4 (pc2 := 32) (lv2 := [(5, .inl (0)), (4, .inl (p2)), (0, .inr (.inr (some (331)))), (1, .inl (p1)), (2, .inl (p2)), (3, .inl (p3))]) (st2 := []) rfl ?_
        refine sd_b_wk [(0, .inr (.inr (some (331)))), (1, .inl (p1)), (3, .inl (p3)), (4, .inl (p2)), (5, .inl (0))] (List.forall_mem_cons.mpr ⟨rfl, (List.forall_mem_cons.mpr ⟨rfl, (List.forall_mem_cons.mpr ⟨rfl, (List.forall_mem_cons.mpr ⟨rfl, (List.forall_mem_cons.mpr ⟨rfl, (fun _ h0 => absurd h0 List.not_mem_nil)⟩)⟩)⟩)⟩)⟩) ?_
        exact t_X10_need_32 hd (f_X10_need_67) (t_X10_need_67 hd) 4000 p1 p3 p2 0 r4.2 _ h
theorem m_X10_need {X : Nat → List sd_V → List sd_E → sd_A → Prop} {d : Nat} (hd : 5 ≤ d) {p1 : Int} {p2 : Int} {p3 : Int} {M : sd_M} {Rr : Int × sd_M} (h : f_X10_need p1 p2 p3 M = some Rr) : sd_Cal X d 194 [.inr (.inr (some (331))), .inl (p1), .inl (p2), .inl (p3)] (sd_rp M) (some (.inl Rr.1), sd_rp Rr.2, 0, 0) := by
  obtain ⟨d, rfl⟩ : ∃ d2, d = d2 + 1 := ⟨d - 1, by omega⟩
  exact sd_cal_of sd_i_X10_need (Nat.le_of_ble_eq_true rfl) (t_X10_need (by omega) p1 p2 p3 M Rr h)
-- X10_line
def sd_q_X10_line : sd_MI := (yX10_line, cX10_line, 2, (some .int), 10, 1, sd_t_X10_line)
set_option maxRecDepth 4000 in
theorem sd_i_X10_line : sd_mL[195]? = some sd_q_X10_line := rfl
def f_X10_line (p1 : Int) (M : sd_M) : Option (Int × sd_M) := if p1 < 0 then (some ((-1), M)) else (if (M 341 60) ≤ p1 then (some ((-1), M)) else (if 0 ≤ (sd_w (89 + p1)) ∧ (sd_w (89 + p1)) < 128 then (some (M 341 (sd_w (89 + p1)).toNat, M)) else none))
set_option maxRecDepth 4000 in
theorem t_X10_line {X : Nat → List sd_V → List sd_E → sd_A → Prop} {d : Nat} (hd : 0 ≤ d) (p1 : Int) (M : sd_M) (Rr : Int × sd_M) (h : f_X10_line p1 M = some Rr) : sd_B X d sd_q_X10_line 0 [(0, .inr (.inr (some (331)))), (1, .inl (p1))] [] M (some (.inl Rr.1), sd_rp Rr.2, 0, 0) := by
  unfold f_X10_line at h
  refine sd_b_go 1 (pc2 := 1) (lv2 := [(0, .inr (.inr (some (331)))), (1, .inl (p1))]) (st2 := [.inl (p1)]) rfl ?_
  by_cases c1 : p1 < 0
  · rw [if_pos c1] at h
    refine sd_b_zt (c := .lt) (tgt := 27) rfl (decide_eq_true c1) (by decide) ?_
    refine sd_b_go 1 (pc2 := 28) (lv2 := [(0, .inr (.inr (some (331)))), (1, .inl (p1))]) (st2 := [.inl ((-1))]) rfl ?_
    cases h
    exact sd_b_rt rfl rfl rfl
  · rw [if_neg c1] at h
    refine sd_b_zf (c := .lt) rfl (decide_eq_false c1) (by decide) ?_
    refine sd_b_go 2 (pc2 := 6) (lv2 := [(0, .inr (.inr (some (331)))), (1, .inl (p1))]) (st2 := [.inr (.inr (some (331))), .inl (p1)]) rfl ?_
    refine sd_b_gr (k := 20) sd_o_331 rfl rfl rfl ?_
    refine sd_b_go 1 (pc2 := 11) (lv2 := [(0, .inr (.inr (some (331)))), (1, .inl (p1))]) (st2 := [.inl (60), .inr (.inr (some (341))), .inl (p1)]) rfl ?_
    refine sd_b_ai (i := 60) (sd_oa sd_o_331 (by decide) (off := 10) (List.mem_of_getElem? (i := 9) rfl)) (by decide) rfl ?_
    by_cases c2 : (M 341 60) ≤ p1
    · rw [if_pos c2] at h
      refine sd_b_ct (c := .ge) (tgt := 27) rfl (decide_eq_true c2) (by decide) ?_
      refine sd_b_go 1 (pc2 := 28) (lv2 := [(0, .inr (.inr (some (331)))), (1, .inl (p1))]) (st2 := [.inl ((-1))]) rfl ?_
      cases h
      exact sd_b_rt rfl rfl rfl
    · rw [if_neg c2] at h
      refine sd_b_cf (c := .ge) rfl (decide_eq_false c2) (by decide) ?_
      refine sd_b_go 1 (pc2 := 16) (lv2 := [(0, .inr (.inr (some (331)))), (1, .inl (p1))]) (st2 := [.inr (.inr (some (331)))]) rfl ?_
      refine sd_b_gr (k := 20) sd_o_331 rfl rfl rfl ?_
      refine sd_b_go 3 (pc2 := 23) (lv2 := [(0, .inr (.inr (some (331)))), (1, .inl (p1))]) (st2 := [.inl (sd_w (89 + p1)), .inr (.inr (some (341)))]) rfl ?_
      obtain ⟨g3, h⟩ := sd_if h
      refine sd_b_ai (sd_oa sd_o_331 (by decide) (off := 10) (List.mem_of_getElem? (i := 9) rfl)) g3 rfl ?_
      refine sd_b_go 1 (pc2 := 28) (lv2 := [(0, .inr (.inr (some (331)))), (1, .inl (p1))]) (st2 := [.inl (M 341 (sd_w (89 + p1)).toNat)]) rfl ?_
      cases h
      exact sd_b_rt rfl rfl rfl
theorem m_X10_line {X : Nat → List sd_V → List sd_E → sd_A → Prop} {d : Nat} (hd : 1 ≤ d) {p1 : Int} {M : sd_M} {Rr : Int × sd_M} (h : f_X10_line p1 M = some Rr) : sd_Cal X d 195 [.inr (.inr (some (331))), .inl (p1)] (sd_rp M) (some (.inl Rr.1), sd_rp Rr.2, 0, 0) := by
  obtain ⟨d, rfl⟩ : ∃ d2, d = d2 + 1 := ⟨d - 1, by omega⟩
  exact sd_cal_of sd_i_X10_line (Nat.le_of_ble_eq_true rfl) (t_X10_line (by omega) p1 M Rr h)
-- X10_out
def sd_q_X10_out : sd_MI := (yX10_out, cX10_out, 2, (some .int), 10, 1, sd_t_X10_out)
set_option maxRecDepth 4000 in
theorem sd_i_X10_out : sd_mL[196]? = some sd_q_X10_out := rfl
def f_X10_out (p1 : Int) (M : sd_M) : Option (Int × sd_M) := if p1 < 0 then (some ((-1), M)) else (if (M 341 61) ≤ p1 then (some ((-1), M)) else (if 0 ≤ (sd_w (98 + p1)) ∧ (sd_w (98 + p1)) < 128 then (some (M 341 (sd_w (98 + p1)).toNat, M)) else none))
set_option maxRecDepth 4000 in
theorem t_X10_out {X : Nat → List sd_V → List sd_E → sd_A → Prop} {d : Nat} (hd : 0 ≤ d) (p1 : Int) (M : sd_M) (Rr : Int × sd_M) (h : f_X10_out p1 M = some Rr) : sd_B X d sd_q_X10_out 0 [(0, .inr (.inr (some (331)))), (1, .inl (p1))] [] M (some (.inl Rr.1), sd_rp Rr.2, 0, 0) := by
  unfold f_X10_out at h
  refine sd_b_go 1 (pc2 := 1) (lv2 := [(0, .inr (.inr (some (331)))), (1, .inl (p1))]) (st2 := [.inl (p1)]) rfl ?_
  by_cases c1 : p1 < 0
  · rw [if_pos c1] at h
    refine sd_b_zt (c := .lt) (tgt := 27) rfl (decide_eq_true c1) (by decide) ?_
    refine sd_b_go 1 (pc2 := 28) (lv2 := [(0, .inr (.inr (some (331)))), (1, .inl (p1))]) (st2 := [.inl ((-1))]) rfl ?_
    cases h
    exact sd_b_rt rfl rfl rfl
  · rw [if_neg c1] at h
    refine sd_b_zf (c := .lt) rfl (decide_eq_false c1) (by decide) ?_
    refine sd_b_go 2 (pc2 := 6) (lv2 := [(0, .inr (.inr (some (331)))), (1, .inl (p1))]) (st2 := [.inr (.inr (some (331))), .inl (p1)]) rfl ?_
    refine sd_b_gr (k := 20) sd_o_331 rfl rfl rfl ?_
    refine sd_b_go 1 (pc2 := 11) (lv2 := [(0, .inr (.inr (some (331)))), (1, .inl (p1))]) (st2 := [.inl (61), .inr (.inr (some (341))), .inl (p1)]) rfl ?_
    refine sd_b_ai (i := 61) (sd_oa sd_o_331 (by decide) (off := 10) (List.mem_of_getElem? (i := 9) rfl)) (by decide) rfl ?_
    by_cases c2 : (M 341 61) ≤ p1
    · rw [if_pos c2] at h
      refine sd_b_ct (c := .ge) (tgt := 27) rfl (decide_eq_true c2) (by decide) ?_
      refine sd_b_go 1 (pc2 := 28) (lv2 := [(0, .inr (.inr (some (331)))), (1, .inl (p1))]) (st2 := [.inl ((-1))]) rfl ?_
      cases h
      exact sd_b_rt rfl rfl rfl
    · rw [if_neg c2] at h
      refine sd_b_cf (c := .ge) rfl (decide_eq_false c2) (by decide) ?_
      refine sd_b_go 1 (pc2 := 16) (lv2 := [(0, .inr (.inr (some (331)))), (1, .inl (p1))]) (st2 := [.inr (.inr (some (331)))]) rfl ?_
      refine sd_b_gr (k := 20) sd_o_331 rfl rfl rfl ?_
      refine sd_b_go 3 (pc2 := 23) (lv2 := [(0, .inr (.inr (some (331)))), (1, .inl (p1))]) (st2 := [.inl (sd_w (98 + p1)), .inr (.inr (some (341)))]) rfl ?_
      obtain ⟨g3, h⟩ := sd_if h
      refine sd_b_ai (sd_oa sd_o_331 (by decide) (off := 10) (List.mem_of_getElem? (i := 9) rfl)) g3 rfl ?_
      refine sd_b_go 1 (pc2 := 28) (lv2 := [(0, .inr (.inr (some (331)))), (1, .inl (p1))]) (st2 := [.inl (M 341 (sd_w (98 + p1)).toNat)]) rfl ?_
      cases h
      exact sd_b_rt rfl rfl rfl
theorem m_X10_out {X : Nat → List sd_V → List sd_E → sd_A → Prop} {d : Nat} (hd : 1 ≤ d) {p1 : Int} {M : sd_M} {Rr : Int × sd_M} (h : f_X10_out p1 M = some Rr) : sd_Cal X d 196 [.inr (.inr (some (331))), .inl (p1)] (sd_rp M) (some (.inl Rr.1), sd_rp Rr.2, 0, 0) := by
  obtain ⟨d, rfl⟩ : ∃ d2, d = d2 + 1 := ⟨d - 1, by omega⟩
  exact sd_cal_of sd_i_X10_out (Nat.le_of_ble_eq_true rfl) (t_X10_out (by omega) p1 M Rr h)
-- X10_summedBy
def sd_q_X10_summedBy : sd_MI := (yX10_summedBy, cX10_summedBy, 4, (some .long), 10, 1, sd_t_X10_summedBy)
set_option maxRecDepth 4000 in
theorem sd_i_X10_summedBy : sd_mL[197]? = some sd_q_X10_summedBy := rfl
def f_X10_summedBy_2 (k58 : Int → Int → sd_M → Option (Int × sd_M)) : Nat → Int → Int → sd_M → Option (Int × sd_M)
  | 0, _, _, _ => none
  | n + 1, v1, v2, M => if 0 ≤ v1 ∧ v1 < 6 then (if (M 336 v1.toNat) ≤ v2 then (some (0, M)) else (if 0 ≤ (sd_w ((sd_w ((sd_w (48 * v1)) + (sd_w (4 * v2)))) + 2)) ∧ (sd_w ((sd_w ((sd_w (48 * v1)) + (sd_w (4 * v2)))) + 2)) < 288 then (if (M 335 (sd_w ((sd_w ((sd_w (48 * v1)) + (sd_w (4 * v2)))) + 2)).toNat) < 0 then (k58 v1 (sd_w ((sd_w (48 * v1)) + (sd_w (4 * v2)))) M) else (if 0 ≤ (sd_w ((sd_w ((sd_w (48 * v1)) + (sd_w (4 * v2)))) + 2)) ∧ (sd_w ((sd_w ((sd_w (48 * v1)) + (sd_w (4 * v2)))) + 2)) < 288 then (if 0 ≤ (sd_w ((sd_w ((sd_w (48 * v1)) + (sd_w (4 * v2)))) + 3)) ∧ (sd_w ((sd_w ((sd_w (48 * v1)) + (sd_w (4 * v2)))) + 3)) < 288 then ((f_X10_reckons v1 (M 335 (sd_w ((sd_w ((sd_w (48 * v1)) + (sd_w (4 * v2)))) + 2)).toNat) (M 335 (sd_w ((sd_w ((sd_w (48 * v1)) + (sd_w (4 * v2)))) + 3)).toNat) M).bind fun r7 => if (sd_cmpl r7.1 1) = 0 then (k58 v1 (sd_w ((sd_w (48 * v1)) + (sd_w (4 * v2)))) r7.2) else (f_X10_summedBy_2 k58 n v1 (sd_w (v2 + 1)) r7.2)) else none) else none)) else none)) else none
set_option maxRecDepth 4000 in
theorem t_X10_summedBy_2 {X : Nat → List sd_V → List sd_E → sd_A → Prop} {d : Nat} (hd : 2 ≤ d) (k58 : Int → Int → sd_M → Option (Int × sd_M)) (hk58 : ∀ (v1 : Int) (v3 : Int) (M : sd_M) (Rr : Int × sd_M), k58 v1 v3 M = some Rr → sd_B X d sd_q_X10_summedBy 58 [(0, .inr (.inr (some (331)))), (1, .inl (v1)), (3, .inl (v3))] [] M (some (.inr (.inl Rr.1)), sd_rp Rr.2, 0, 0)) : ∀ (n : Nat) (v1 : Int) (v2 : Int) (M : sd_M) (Rr : Int × sd_M), f_X10_summedBy_2 k58 n v1 v2 M = some Rr → sd_B X d sd_q_X10_summedBy 2 [(0, .inr (.inr (some (331)))), (1, .inl (v1)), (2, .inl (v2))] [] M (some (.inr (.inl Rr.1)), sd_rp Rr.2, 0, 0) := by
  intro n
  induction n with
  | zero => intro v1 v2 M Rr h; cases h
  | succ n ih =>
    intro v1 v2 M Rr h
    rw [f_X10_summedBy_2] at h
    refine sd_b_go 2 (pc2 := 4) (lv2 := [(0, .inr (.inr (some (331)))), (1, .inl (v1)), (2, .inl (v2))]) (st2 := [.inr (.inr (some (331))), .inl (v2)]) rfl ?_
    refine sd_b_gr (k := 6) sd_o_331 rfl rfl rfl ?_
    refine sd_b_go 1 (pc2 := 8) (lv2 := [(0, .inr (.inr (some (331)))), (1, .inl (v1)), (2, .inl (v2))]) (st2 := [.inl (v1), .inr (.inr (some (336))), .inl (v2)]) rfl ?_
    obtain ⟨g1, h⟩ := sd_if h
    refine sd_b_ai (sd_oa sd_o_331 (by decide) (off := 5) (List.mem_of_getElem? (i := 4) rfl)) g1 rfl ?_
    by_cases c2 : (M 336 v1.toNat) ≤ v2
    · rw [if_pos c2] at h
      refine sd_b_ct (c := .ge) (tgt := 84) rfl (decide_eq_true c2) (by decide) ?_
      refine sd_b_go 1 (pc2 := 85) (lv2 := [(0, .inr (.inr (some (331)))), (1, .inl (v1)), (2, .inl (v2))]) (st2 := [.inr (.inl (0))]) rfl ?_
      cases h
      exact sd_b_rt rfl rfl rfl
    · rw [if_neg c2] at h
      refine sd_b_cf (c := .ge) rfl (decide_eq_false c2) (by decide) ?_
      refine sd_b_go 9 (pc2 := 22) (lv2 := [(3, .inl (sd_w ((sd_w (48 * v1)) + (sd_w (4 * v2))))), (0, .inr (.inr (some (331)))), (1, .inl (v1)), (2, .inl (v2))]) (st2 := [.inr (.inr (some (331)))]) rfl ?_
      refine sd_b_gr (k := 5) sd_o_331 rfl rfl rfl ?_
      refine sd_b_go 3 (pc2 := 28) (lv2 := [(3, .inl (sd_w ((sd_w (48 * v1)) + (sd_w (4 * v2))))), (0, .inr (.inr (some (331)))), (1, .inl (v1)), (2, .inl (v2))]) (st2 := [.inl (sd_w ((sd_w ((sd_w (48 * v1)) + (sd_w (4 * v2)))) + 2)), .inr (.inr (some (335)))]) rfl ?_
      obtain ⟨g3, h⟩ := sd_if h
      refine sd_b_ai (sd_oa sd_o_331 (by decide) (off := 4) (List.mem_of_getElem? (i := 3) rfl)) g3 rfl ?_
      by_cases c4 : (M 335 (sd_w ((sd_w ((sd_w (48 * v1)) + (sd_w (4 * v2)))) + 2)).toNat) < 0
      · rw [if_pos c4] at h
        refine sd_b_zt (c := .lt) (tgt := 58) rfl (decide_eq_true c4) (by decide) ?_
        refine sd_b_wk [(0, .inr (.inr (some (331)))), (1, .inl (v1)), (3, .inl (sd_w ((sd_w (48 * v1)) + (sd_w (4 * v2)))))] (List.forall_mem_cons.mpr ⟨rfl, (List.forall_mem_cons.mpr ⟨rfl, (List.forall_mem_cons.mpr ⟨rfl, (fun _ h0 => absurd h0 List.not_mem_nil)⟩)⟩)⟩) ?_
        exact hk58 v1 (sd_w ((sd_w (48 * v1)) + (sd_w (4 * v2)))) M _ h
      · rw [if_neg c4] at h
        refine sd_b_zf (c := .lt) rfl (decide_eq_false c4) (by decide) ?_
        refine sd_b_go 3 (pc2 := 35) (lv2 := [(3, .inl (sd_w ((sd_w (48 * v1)) + (sd_w (4 * v2))))), (0, .inr (.inr (some (331)))), (1, .inl (v1)), (2, .inl (v2))]) (st2 := [.inr (.inr (some (331))), .inl (v1), .inr (.inr (some (331)))]) rfl ?_
        refine sd_b_gr (k := 5) sd_o_331 rfl rfl rfl ?_
        refine sd_b_go 3 (pc2 := 41) (lv2 := [(3, .inl (sd_w ((sd_w (48 * v1)) + (sd_w (4 * v2))))), (0, .inr (.inr (some (331)))), (1, .inl (v1)), (2, .inl (v2))]) (st2 := [.inl (sd_w ((sd_w ((sd_w (48 * v1)) + (sd_w (4 * v2)))) + 2)), .inr (.inr (some (335))), .inl (v1), .inr (.inr (some (331)))]) rfl ?_
        obtain ⟨g5, h⟩ := sd_if h
        refine sd_b_ai (sd_oa sd_o_331 (by decide) (off := 4) (List.mem_of_getElem? (i := 3) rfl)) g5 rfl ?_
        refine sd_b_go 1 (pc2 := 43) (lv2 := [(3, .inl (sd_w ((sd_w (48 * v1)) + (sd_w (4 * v2))))), (0, .inr (.inr (some (331)))), (1, .inl (v1)), (2, .inl (v2))]) (st2 := [.inr (.inr (some (331))), .inl (M 335 (sd_w ((sd_w ((sd_w (48 * v1)) + (sd_w (4 * v2)))) + 2)).toNat), .inl (v1), .inr (.inr (some (331)))]) rfl ?_
        refine sd_b_gr (k := 5) sd_o_331 rfl rfl rfl ?_
        refine sd_b_go 3 (pc2 := 49) (lv2 := [(3, .inl (sd_w ((sd_w (48 * v1)) + (sd_w (4 * v2))))), (0, .inr (.inr (some (331)))), (1, .inl (v1)), (2, .inl (v2))]) (st2 := [.inl (sd_w ((sd_w ((sd_w (48 * v1)) + (sd_w (4 * v2)))) + 3)), .inr (.inr (some (335))), .inl (M 335 (sd_w ((sd_w ((sd_w (48 * v1)) + (sd_w (4 * v2)))) + 2)).toNat), .inl (v1), .inr (.inr (some (331)))]) rfl ?_
        obtain ⟨g6, h⟩ := sd_if h
        refine sd_b_ai (sd_oa sd_o_331 (by decide) (off := 4) (List.mem_of_getElem? (i := 3) rfl)) g6 rfl ?_
        obtain ⟨r7, e7, h⟩ := sd_bnd h
        refine sd_b_call [.inr (.inr (some (331))), .inl (v1), .inl (M 335 (sd_w ((sd_w ((sd_w (48 * v1)) + (sd_w (4 * v2)))) + 2)).toNat), .inl (M 335 (sd_w ((sd_w ((sd_w (48 * v1)) + (sd_w (4 * v2)))) + 3)).toNat)] [] rfl rfl sd_i_X10_reckons rfl rfl (Nat.le_of_ble_eq_true rfl) (sd_rc_v sd_o_331) (m_X10_reckons (by omega) e7) ?_
        refine sd_b_go 2 (pc2 := 55) (lv2 := [(3, .inl (sd_w ((sd_w (48 * v1)) + (sd_w (4 * v2))))), (0, .inr (.inr (some (331)))), (1, .inl (v1)), (2, .inl (v2))]) (st2 := [.inl (sd_cmpl r7.1 1)]) rfl ?_
        by_cases c8 : (sd_cmpl r7.1 1) = 0
        · rw [if_pos c8] at h
          refine sd_b_zf (c := .ne) rfl (decide_eq_false (not_not_intro c8)) (by decide) ?_
          refine sd_b_wk [(0, .inr (.inr (some (331)))), (1, .inl (v1)), (3, .inl (sd_w ((sd_w (48 * v1)) + (sd_w (4 * v2)))))] (List.forall_mem_cons.mpr ⟨rfl, (List.forall_mem_cons.mpr ⟨rfl, (List.forall_mem_cons.mpr ⟨rfl, (fun _ h0 => absurd h0 List.not_mem_nil)⟩)⟩)⟩) ?_
          exact hk58 v1 (sd_w ((sd_w (48 * v1)) + (sd_w (4 * v2)))) r7.2 _ h
        · rw [if_neg c8] at h
          refine sd_b_zt (c := .ne) (tgt := 78) rfl (decide_eq_true c8) (by decide) ?_
          refine sd_b_go 2 (pc2 := 2) (lv2 := [(2, .inl (sd_w (v2 + 1))), (3, .inl (sd_w ((sd_w (48 * v1)) + (sd_w (4 * v2))))), (0, .inr (.inr (some (331)))), (1, .inl (v1))]) (st2 := []) rfl ?_
          refine sd_b_wk [(0, .inr (.inr (some (331)))), (1, .inl (v1)), (2, .inl (sd_w (v2 + 1)))] (List.forall_mem_cons.mpr ⟨rfl, (List.forall_mem_cons.mpr ⟨rfl, (List.forall_mem_cons.mpr ⟨rfl, (fun _ h0 => absurd h0 List.not_mem_nil)⟩)⟩)⟩) ?_
          exact ih v1 (sd_w (v2 + 1)) r7.2 _ h
def f_X10_summedBy_58 (v1 : Int) (v3 : Int) (M : sd_M) : Option (Int × sd_M) := if 0 ≤ v3 ∧ v3 < 288 then (if 0 ≤ (sd_w (v3 + 1)) ∧ (sd_w (v3 + 1)) < 288 then ((f_X10_reckons v1 (M 335 v3.toNat) (M 335 (sd_w (v3 + 1)).toNat) M).bind fun r3 => some (r3.1, r3.2)) else none) else none
set_option maxRecDepth 4000 in
theorem t_X10_summedBy_58 {X : Nat → List sd_V → List sd_E → sd_A → Prop} {d : Nat} (hd : 2 ≤ d) (v1 : Int) (v3 : Int) (M : sd_M) (Rr : Int × sd_M) (h : f_X10_summedBy_58 v1 v3 M = some Rr) : sd_B X d sd_q_X10_summedBy 58 [(0, .inr (.inr (some (331)))), (1, .inl (v1)), (3, .inl (v3))] [] M (some (.inr (.inl Rr.1)), sd_rp Rr.2, 0, 0) := by
  unfold f_X10_summedBy_58 at h
  refine sd_b_go 3 (pc2 := 61) (lv2 := [(0, .inr (.inr (some (331)))), (1, .inl (v1)), (3, .inl (v3))]) (st2 := [.inr (.inr (some (331))), .inl (v1), .inr (.inr (some (331)))]) rfl ?_
  refine sd_b_gr (k := 5) sd_o_331 rfl rfl rfl ?_
  refine sd_b_go 1 (pc2 := 65) (lv2 := [(0, .inr (.inr (some (331)))), (1, .inl (v1)), (3, .inl (v3))]) (st2 := [.inl (v3), .inr (.inr (some (335))), .inl (v1), .inr (.inr (some (331)))]) rfl ?_
  obtain ⟨g1, h⟩ := sd_if h
  refine sd_b_ai (sd_oa sd_o_331 (by decide) (off := 4) (List.mem_of_getElem? (i := 3) rfl)) g1 rfl ?_
  refine sd_b_go 1 (pc2 := 67) (lv2 := [(0, .inr (.inr (some (331)))), (1, .inl (v1)), (3, .inl (v3))]) (st2 := [.inr (.inr (some (331))), .inl (M 335 v3.toNat), .inl (v1), .inr (.inr (some (331)))]) rfl ?_
  refine sd_b_gr (k := 5) sd_o_331 rfl rfl rfl ?_
  refine sd_b_go 3 (pc2 := 73) (lv2 := [(0, .inr (.inr (some (331)))), (1, .inl (v1)), (3, .inl (v3))]) (st2 := [.inl (sd_w (v3 + 1)), .inr (.inr (some (335))), .inl (M 335 v3.toNat), .inl (v1), .inr (.inr (some (331)))]) rfl ?_
  obtain ⟨g2, h⟩ := sd_if h
  refine sd_b_ai (sd_oa sd_o_331 (by decide) (off := 4) (List.mem_of_getElem? (i := 3) rfl)) g2 rfl ?_
  obtain ⟨r3, e3, h⟩ := sd_bnd h
  refine sd_b_call [.inr (.inr (some (331))), .inl (v1), .inl (M 335 v3.toNat), .inl (M 335 (sd_w (v3 + 1)).toNat)] [] rfl rfl sd_i_X10_reckons rfl rfl (Nat.le_of_ble_eq_true rfl) (sd_rc_v sd_o_331) (m_X10_reckons (by omega) e3) ?_
  cases h
  exact sd_b_rt rfl rfl rfl
def f_X10_summedBy (p1 : Int) (M : sd_M) : Option (Int × sd_M) := f_X10_summedBy_2 (f_X10_summedBy_58) 4000 p1 0 M
set_option maxRecDepth 4000 in
theorem t_X10_summedBy {X : Nat → List sd_V → List sd_E → sd_A → Prop} {d : Nat} (hd : 2 ≤ d) (p1 : Int) (M : sd_M) (Rr : Int × sd_M) (h : f_X10_summedBy p1 M = some Rr) : sd_B X d sd_q_X10_summedBy 0 [(0, .inr (.inr (some (331)))), (1, .inl (p1))] [] M (some (.inr (.inl Rr.1)), sd_rp Rr.2, 0, 0) := by
  unfold f_X10_summedBy at h
  refine sd_b_go 2 (pc2 := 2) (lv2 := [(2, .inl (0)), (0, .inr (.inr (some (331)))), (1, .inl (p1))]) (st2 := []) rfl ?_
  refine sd_b_wk [(0, .inr (.inr (some (331)))), (1, .inl (p1)), (2, .inl (0))] (List.forall_mem_cons.mpr ⟨rfl, (List.forall_mem_cons.mpr ⟨rfl, (List.forall_mem_cons.mpr ⟨rfl, (fun _ h0 => absurd h0 List.not_mem_nil)⟩)⟩)⟩) ?_
  exact t_X10_summedBy_2 hd (f_X10_summedBy_58) (t_X10_summedBy_58 hd) 4000 p1 0 M _ h
theorem m_X10_summedBy {X : Nat → List sd_V → List sd_E → sd_A → Prop} {d : Nat} (hd : 3 ≤ d) {p1 : Int} {M : sd_M} {Rr : Int × sd_M} (h : f_X10_summedBy p1 M = some Rr) : sd_Cal X d 197 [.inr (.inr (some (331))), .inl (p1)] (sd_rp M) (some (.inr (.inl Rr.1)), sd_rp Rr.2, 0, 0) := by
  obtain ⟨d, rfl⟩ : ∃ d2, d = d2 + 1 := ⟨d - 1, by omega⟩
  exact sd_cal_of sd_i_X10_summedBy (Nat.le_of_ble_eq_true rfl) (t_X10_summedBy (by omega) p1 M Rr h)
-- X10_sumOf
def sd_q_X10_sumOf : sd_MI := (yX10_sumOf, cX10_sumOf, 2, (some .long), 10, 1, sd_t_X10_sumOf)
set_option maxRecDepth 4000 in
theorem sd_i_X10_sumOf : sd_mL[198]? = some sd_q_X10_sumOf := rfl
def f_X10_sumOf (p1 : Int) (M : sd_M) : Option (Int × sd_M) := if 0 ≤ (sd_w (62 + p1)) ∧ (sd_w (62 + p1)) < 128 then (if 0 ≤ (sd_w (13 + p1)) ∧ (sd_w (13 + p1)) < 128 then ((f_X10_needsOf p1 (sd_s (sd_s (sd_s M 340 0 p1) 340 1 ((sd_s M 340 0 p1) 341 (sd_w (62 + p1)).toNat)) 340 2 ((sd_s (sd_s M 340 0 p1) 340 1 ((sd_s M 340 0 p1) 341 (sd_w (62 + p1)).toNat)) 341 (sd_w (13 + p1)).toNat))).bind fun r3 => (f_X10_placed (sd_s (sd_s r3.2 340 3 r3.1) 340 4 ((sd_s r3.2 340 3 r3.1) 341 60))).bind fun r4 => (f_X10_shortNow (sd_s (sd_s r4.2 340 5 r4.1) 340 6 ((sd_s r4.2 340 5 r4.1) 341 59))).bind fun r5 => (f_X10_onesAt 0 (sd_s r5.2 340 7 r5.1)).bind fun r6 => (f_X10_bits r6.1 r6.2).bind fun r7 => (f_X10_summedBy (sd_s (sd_s (sd_s r7.2 340 8 r7.1) 340 9 ((sd_s r7.2 340 8 r7.1) 341 61)) 340 10 ((sd_s (sd_s r7.2 340 8 r7.1) 340 9 ((sd_s r7.2 340 8 r7.1) 341 61)) 341 58) 331 21) (sd_s (sd_s (sd_s r7.2 340 8 r7.1) 340 9 ((sd_s r7.2 340 8 r7.1) 341 61)) 340 10 ((sd_s (sd_s r7.2 340 8 r7.1) 340 9 ((sd_s r7.2 340 8 r7.1) 341 61)) 341 58))).bind fun r8 => some (r8.1, r8.2)) else none) else none
set_option maxRecDepth 4000 in
theorem t_X10_sumOf {X : Nat → List sd_V → List sd_E → sd_A → Prop} {d : Nat} (hd : 3 ≤ d) (p1 : Int) (M : sd_M) (Rr : Int × sd_M) (h : f_X10_sumOf p1 M = some Rr) : sd_B X d sd_q_X10_sumOf 0 [(0, .inr (.inr (some (331)))), (1, .inl (p1))] [] M (some (.inr (.inl Rr.1)), sd_rp Rr.2, 0, 0) := by
  unfold f_X10_sumOf at h
  refine sd_b_go 1 (pc2 := 1) (lv2 := [(0, .inr (.inr (some (331)))), (1, .inl (p1))]) (st2 := [.inr (.inr (some (331)))]) rfl ?_
  refine sd_b_gr (k := 19) sd_o_331 rfl rfl rfl ?_
  refine sd_b_go 3 (pc2 := 7) (lv2 := [(0, .inr (.inr (some (331)))), (1, .inl (p1))]) (st2 := [.inr (.inl (p1)), .inl (0), .inr (.inr (some (340)))]) rfl ?_
  refine sd_b_sl (i := 0) (sd_oa sd_o_331 (by decide) (off := 9) (List.mem_of_getElem? (i := 8) rfl)) (by decide) rfl ?_
  refine sd_b_go 1 (pc2 := 9) (lv2 := [(0, .inr (.inr (some (331)))), (1, .inl (p1))]) (st2 := [.inr (.inr (some (331)))]) rfl ?_
  refine sd_b_gr (k := 19) sd_o_331 rfl rfl rfl ?_
  refine sd_b_go 2 (pc2 := 14) (lv2 := [(0, .inr (.inr (some (331)))), (1, .inl (p1))]) (st2 := [.inr (.inr (some (331))), .inl (1), .inr (.inr (some (340)))]) rfl ?_
  refine sd_b_gr (k := 20) sd_o_331 rfl rfl rfl ?_
  refine sd_b_go 3 (pc2 := 21) (lv2 := [(0, .inr (.inr (some (331)))), (1, .inl (p1))]) (st2 := [.inl (sd_w (62 + p1)), .inr (.inr (some (341))), .inl (1), .inr (.inr (some (340)))]) rfl ?_
  obtain ⟨g1, h⟩ := sd_if h
  refine sd_b_ai (sd_oa sd_o_331 (by decide) (off := 10) (List.mem_of_getElem? (i := 9) rfl)) g1 rfl ?_
  refine sd_b_go 1 (pc2 := 23) (lv2 := [(0, .inr (.inr (some (331)))), (1, .inl (p1))]) (st2 := [.inr (.inl ((sd_s M 340 0 p1) 341 (sd_w (62 + p1)).toNat)), .inl (1), .inr (.inr (some (340)))]) rfl ?_
  refine sd_b_sl (i := 1) (sd_oa sd_o_331 (by decide) (off := 9) (List.mem_of_getElem? (i := 8) rfl)) (by decide) rfl ?_
  refine sd_b_go 1 (pc2 := 25) (lv2 := [(0, .inr (.inr (some (331)))), (1, .inl (p1))]) (st2 := [.inr (.inr (some (331)))]) rfl ?_
  refine sd_b_gr (k := 19) sd_o_331 rfl rfl rfl ?_
  refine sd_b_go 2 (pc2 := 30) (lv2 := [(0, .inr (.inr (some (331)))), (1, .inl (p1))]) (st2 := [.inr (.inr (some (331))), .inl (2), .inr (.inr (some (340)))]) rfl ?_
  refine sd_b_gr (k := 20) sd_o_331 rfl rfl rfl ?_
  refine sd_b_go 3 (pc2 := 37) (lv2 := [(0, .inr (.inr (some (331)))), (1, .inl (p1))]) (st2 := [.inl (sd_w (13 + p1)), .inr (.inr (some (341))), .inl (2), .inr (.inr (some (340)))]) rfl ?_
  obtain ⟨g2, h⟩ := sd_if h
  refine sd_b_ai (sd_oa sd_o_331 (by decide) (off := 10) (List.mem_of_getElem? (i := 9) rfl)) g2 rfl ?_
  refine sd_b_go 1 (pc2 := 39) (lv2 := [(0, .inr (.inr (some (331)))), (1, .inl (p1))]) (st2 := [.inr (.inl ((sd_s (sd_s M 340 0 p1) 340 1 ((sd_s M 340 0 p1) 341 (sd_w (62 + p1)).toNat)) 341 (sd_w (13 + p1)).toNat)), .inl (2), .inr (.inr (some (340)))]) rfl ?_
  refine sd_b_sl (i := 2) (sd_oa sd_o_331 (by decide) (off := 9) (List.mem_of_getElem? (i := 8) rfl)) (by decide) rfl ?_
  refine sd_b_go 1 (pc2 := 41) (lv2 := [(0, .inr (.inr (some (331)))), (1, .inl (p1))]) (st2 := [.inr (.inr (some (331)))]) rfl ?_
  refine sd_b_gr (k := 19) sd_o_331 rfl rfl rfl ?_
  refine sd_b_go 3 (pc2 := 47) (lv2 := [(0, .inr (.inr (some (331)))), (1, .inl (p1))]) (st2 := [.inl (p1), .inr (.inr (some (331))), .inl (3), .inr (.inr (some (340)))]) rfl ?_
  obtain ⟨r3, e3, h⟩ := sd_bnd h
  refine sd_b_call [.inr (.inr (some (331))), .inl (p1)] [.inl (3), .inr (.inr (some (340)))] rfl rfl sd_i_X10_needsOf rfl rfl (Nat.le_of_ble_eq_true rfl) (sd_rc_v sd_o_331) (m_X10_needsOf (by omega) e3) ?_
  refine sd_b_go 1 (pc2 := 51) (lv2 := [(0, .inr (.inr (some (331)))), (1, .inl (p1))]) (st2 := [.inr (.inl (r3.1)), .inl (3), .inr (.inr (some (340)))]) rfl ?_
  refine sd_b_sl (i := 3) (sd_oa sd_o_331 (by decide) (off := 9) (List.mem_of_getElem? (i := 8) rfl)) (by decide) rfl ?_
  refine sd_b_go 1 (pc2 := 53) (lv2 := [(0, .inr (.inr (some (331)))), (1, .inl (p1))]) (st2 := [.inr (.inr (some (331)))]) rfl ?_
  refine sd_b_gr (k := 19) sd_o_331 rfl rfl rfl ?_
  refine sd_b_go 2 (pc2 := 58) (lv2 := [(0, .inr (.inr (some (331)))), (1, .inl (p1))]) (st2 := [.inr (.inr (some (331))), .inl (4), .inr (.inr (some (340)))]) rfl ?_
  refine sd_b_gr (k := 20) sd_o_331 rfl rfl rfl ?_
  refine sd_b_go 1 (pc2 := 63) (lv2 := [(0, .inr (.inr (some (331)))), (1, .inl (p1))]) (st2 := [.inl (60), .inr (.inr (some (341))), .inl (4), .inr (.inr (some (340)))]) rfl ?_
  refine sd_b_ai (i := 60) (sd_oa sd_o_331 (by decide) (off := 10) (List.mem_of_getElem? (i := 9) rfl)) (by decide) rfl ?_
  refine sd_b_go 1 (pc2 := 65) (lv2 := [(0, .inr (.inr (some (331)))), (1, .inl (p1))]) (st2 := [.inr (.inl ((sd_s r3.2 340 3 r3.1) 341 60)), .inl (4), .inr (.inr (some (340)))]) rfl ?_
  refine sd_b_sl (i := 4) (sd_oa sd_o_331 (by decide) (off := 9) (List.mem_of_getElem? (i := 8) rfl)) (by decide) rfl ?_
  refine sd_b_go 1 (pc2 := 67) (lv2 := [(0, .inr (.inr (some (331)))), (1, .inl (p1))]) (st2 := [.inr (.inr (some (331)))]) rfl ?_
  refine sd_b_gr (k := 19) sd_o_331 rfl rfl rfl ?_
  refine sd_b_go 2 (pc2 := 72) (lv2 := [(0, .inr (.inr (some (331)))), (1, .inl (p1))]) (st2 := [.inr (.inr (some (331))), .inl (5), .inr (.inr (some (340)))]) rfl ?_
  obtain ⟨r4, e4, h⟩ := sd_bnd h
  refine sd_b_call [.inr (.inr (some (331)))] [.inl (5), .inr (.inr (some (340)))] rfl rfl sd_i_X10_placed rfl rfl (Nat.le_of_ble_eq_true rfl) (sd_rc_v sd_o_331) (m_X10_placed (by omega) e4) ?_
  refine sd_b_go 1 (pc2 := 76) (lv2 := [(0, .inr (.inr (some (331)))), (1, .inl (p1))]) (st2 := [.inr (.inl (r4.1)), .inl (5), .inr (.inr (some (340)))]) rfl ?_
  refine sd_b_sl (i := 5) (sd_oa sd_o_331 (by decide) (off := 9) (List.mem_of_getElem? (i := 8) rfl)) (by decide) rfl ?_
  refine sd_b_go 1 (pc2 := 78) (lv2 := [(0, .inr (.inr (some (331)))), (1, .inl (p1))]) (st2 := [.inr (.inr (some (331)))]) rfl ?_
  refine sd_b_gr (k := 19) sd_o_331 rfl rfl rfl ?_
  refine sd_b_go 2 (pc2 := 84) (lv2 := [(0, .inr (.inr (some (331)))), (1, .inl (p1))]) (st2 := [.inr (.inr (some (331))), .inl (6), .inr (.inr (some (340)))]) rfl ?_
  refine sd_b_gr (k := 20) sd_o_331 rfl rfl rfl ?_
  refine sd_b_go 1 (pc2 := 89) (lv2 := [(0, .inr (.inr (some (331)))), (1, .inl (p1))]) (st2 := [.inl (59), .inr (.inr (some (341))), .inl (6), .inr (.inr (some (340)))]) rfl ?_
  refine sd_b_ai (i := 59) (sd_oa sd_o_331 (by decide) (off := 10) (List.mem_of_getElem? (i := 9) rfl)) (by decide) rfl ?_
  refine sd_b_go 1 (pc2 := 91) (lv2 := [(0, .inr (.inr (some (331)))), (1, .inl (p1))]) (st2 := [.inr (.inl ((sd_s r4.2 340 5 r4.1) 341 59)), .inl (6), .inr (.inr (some (340)))]) rfl ?_
  refine sd_b_sl (i := 6) (sd_oa sd_o_331 (by decide) (off := 9) (List.mem_of_getElem? (i := 8) rfl)) (by decide) rfl ?_
  refine sd_b_go 1 (pc2 := 93) (lv2 := [(0, .inr (.inr (some (331)))), (1, .inl (p1))]) (st2 := [.inr (.inr (some (331)))]) rfl ?_
  refine sd_b_gr (k := 19) sd_o_331 rfl rfl rfl ?_
  refine sd_b_go 2 (pc2 := 99) (lv2 := [(0, .inr (.inr (some (331)))), (1, .inl (p1))]) (st2 := [.inr (.inr (some (331))), .inl (7), .inr (.inr (some (340)))]) rfl ?_
  obtain ⟨r5, e5, h⟩ := sd_bnd h
  refine sd_b_call [.inr (.inr (some (331)))] [.inl (7), .inr (.inr (some (340)))] rfl rfl sd_i_X10_shortNow rfl rfl (Nat.le_of_ble_eq_true rfl) (sd_rc_v sd_o_331) (m_X10_shortNow (by omega) e5) ?_
  refine sd_b_go 1 (pc2 := 103) (lv2 := [(0, .inr (.inr (some (331)))), (1, .inl (p1))]) (st2 := [.inr (.inl (r5.1)), .inl (7), .inr (.inr (some (340)))]) rfl ?_
  refine sd_b_sl (i := 7) (sd_oa sd_o_331 (by decide) (off := 9) (List.mem_of_getElem? (i := 8) rfl)) (by decide) rfl ?_
  refine sd_b_go 1 (pc2 := 105) (lv2 := [(0, .inr (.inr (some (331)))), (1, .inl (p1))]) (st2 := [.inr (.inr (some (331)))]) rfl ?_
  refine sd_b_gr (k := 19) sd_o_331 rfl rfl rfl ?_
  refine sd_b_go 3 (pc2 := 112) (lv2 := [(0, .inr (.inr (some (331)))), (1, .inl (p1))]) (st2 := [.inl (0), .inr (.inr (some (331))), .inl (8), .inr (.inr (some (340)))]) rfl ?_
  obtain ⟨r6, e6, h⟩ := sd_bnd h
  refine sd_b_call [.inr (.inr (some (331))), .inl (0)] [.inl (8), .inr (.inr (some (340)))] rfl rfl sd_i_X10_onesAt rfl rfl (Nat.le_of_ble_eq_true rfl) (sd_rc_v sd_o_331) (m_X10_onesAt (by omega) e6) ?_
  obtain ⟨r7, e7, h⟩ := sd_bnd h
  refine sd_b_call [.inl (r6.1)] [.inl (8), .inr (.inr (some (340)))] rfl rfl sd_i_X10_bits rfl rfl (Nat.le_of_ble_eq_true rfl) rfl (m_X10_bits (by omega) e7) ?_
  refine sd_b_go 1 (pc2 := 119) (lv2 := [(0, .inr (.inr (some (331)))), (1, .inl (p1))]) (st2 := [.inr (.inl (r7.1)), .inl (8), .inr (.inr (some (340)))]) rfl ?_
  refine sd_b_sl (i := 8) (sd_oa sd_o_331 (by decide) (off := 9) (List.mem_of_getElem? (i := 8) rfl)) (by decide) rfl ?_
  refine sd_b_go 1 (pc2 := 121) (lv2 := [(0, .inr (.inr (some (331)))), (1, .inl (p1))]) (st2 := [.inr (.inr (some (331)))]) rfl ?_
  refine sd_b_gr (k := 19) sd_o_331 rfl rfl rfl ?_
  refine sd_b_go 2 (pc2 := 127) (lv2 := [(0, .inr (.inr (some (331)))), (1, .inl (p1))]) (st2 := [.inr (.inr (some (331))), .inl (9), .inr (.inr (some (340)))]) rfl ?_
  refine sd_b_gr (k := 20) sd_o_331 rfl rfl rfl ?_
  refine sd_b_go 1 (pc2 := 132) (lv2 := [(0, .inr (.inr (some (331)))), (1, .inl (p1))]) (st2 := [.inl (61), .inr (.inr (some (341))), .inl (9), .inr (.inr (some (340)))]) rfl ?_
  refine sd_b_ai (i := 61) (sd_oa sd_o_331 (by decide) (off := 10) (List.mem_of_getElem? (i := 9) rfl)) (by decide) rfl ?_
  refine sd_b_go 1 (pc2 := 134) (lv2 := [(0, .inr (.inr (some (331)))), (1, .inl (p1))]) (st2 := [.inr (.inl ((sd_s r7.2 340 8 r7.1) 341 61)), .inl (9), .inr (.inr (some (340)))]) rfl ?_
  refine sd_b_sl (i := 9) (sd_oa sd_o_331 (by decide) (off := 9) (List.mem_of_getElem? (i := 8) rfl)) (by decide) rfl ?_
  refine sd_b_go 1 (pc2 := 136) (lv2 := [(0, .inr (.inr (some (331)))), (1, .inl (p1))]) (st2 := [.inr (.inr (some (331)))]) rfl ?_
  refine sd_b_gr (k := 19) sd_o_331 rfl rfl rfl ?_
  refine sd_b_go 2 (pc2 := 142) (lv2 := [(0, .inr (.inr (some (331)))), (1, .inl (p1))]) (st2 := [.inr (.inr (some (331))), .inl (10), .inr (.inr (some (340)))]) rfl ?_
  refine sd_b_gr (k := 20) sd_o_331 rfl rfl rfl ?_
  refine sd_b_go 1 (pc2 := 147) (lv2 := [(0, .inr (.inr (some (331)))), (1, .inl (p1))]) (st2 := [.inl (58), .inr (.inr (some (341))), .inl (10), .inr (.inr (some (340)))]) rfl ?_
  refine sd_b_ai (i := 58) (sd_oa sd_o_331 (by decide) (off := 10) (List.mem_of_getElem? (i := 9) rfl)) (by decide) rfl ?_
  refine sd_b_go 1 (pc2 := 149) (lv2 := [(0, .inr (.inr (some (331)))), (1, .inl (p1))]) (st2 := [.inr (.inl ((sd_s (sd_s r7.2 340 8 r7.1) 340 9 ((sd_s r7.2 340 8 r7.1) 341 61)) 341 58)), .inl (10), .inr (.inr (some (340)))]) rfl ?_
  refine sd_b_sl (i := 10) (sd_oa sd_o_331 (by decide) (off := 9) (List.mem_of_getElem? (i := 8) rfl)) (by decide) rfl ?_
  refine sd_b_go 2 (pc2 := 152) (lv2 := [(0, .inr (.inr (some (331)))), (1, .inl (p1))]) (st2 := [.inr (.inr (some (331))), .inr (.inr (some (331)))]) rfl ?_
  refine sd_b_gi (k := 21) sd_o_331 rfl rfl rfl ?_
  obtain ⟨r8, e8, h⟩ := sd_bnd h
  refine sd_b_call [.inr (.inr (some (331))), .inl (sd_s (sd_s (sd_s r7.2 340 8 r7.1) 340 9 ((sd_s r7.2 340 8 r7.1) 341 61)) 340 10 ((sd_s (sd_s r7.2 340 8 r7.1) 340 9 ((sd_s r7.2 340 8 r7.1) 341 61)) 341 58) 331 21)] [] rfl rfl sd_i_X10_summedBy rfl rfl (Nat.le_of_ble_eq_true rfl) (sd_rc_v sd_o_331) (m_X10_summedBy (by omega) e8) ?_
  cases h
  exact sd_b_rt rfl rfl rfl
theorem m_X10_sumOf {X : Nat → List sd_V → List sd_E → sd_A → Prop} {d : Nat} (hd : 4 ≤ d) {p1 : Int} {M : sd_M} {Rr : Int × sd_M} (h : f_X10_sumOf p1 M = some Rr) : sd_Cal X d 198 [.inr (.inr (some (331))), .inl (p1)] (sd_rp M) (some (.inr (.inl Rr.1)), sd_rp Rr.2, 0, 0) := by
  obtain ⟨d, rfl⟩ : ∃ d2, d = d2 + 1 := ⟨d - 1, by omega⟩
  exact sd_cal_of sd_i_X10_sumOf (Nat.le_of_ble_eq_true rfl) (t_X10_sumOf (by omega) p1 M Rr h)
-- X10_choice
def sd_q_X10_choice : sd_MI := (yX10_choice, cX10_choice, 7, (some .int), 10, 0, sd_t_X10_choice)
set_option maxRecDepth 4000 in
theorem sd_i_X10_choice : sd_mL[199]? = some sd_q_X10_choice := rfl
def f_X10_choice_65 (k7 : Int → Int → Int → sd_M → Option (Int × sd_M)) (v1 : Int) (v2 : Int) (v4 : Int) (M : sd_M) : Option (Int × sd_M) := k7 v1 v2 (sd_w (v4 + 1)) M
set_option maxRecDepth 4000 in
theorem t_X10_choice_65 {X : Nat → List sd_V → List sd_E → sd_A → Prop} {d : Nat} (hd : 4 ≤ d) (k7 : Int → Int → Int → sd_M → Option (Int × sd_M)) (hk7 : ∀ (v1 : Int) (v2 : Int) (v4 : Int) (M : sd_M) (Rr : Int × sd_M), k7 v1 v2 v4 M = some Rr → sd_B X d sd_q_X10_choice 7 [(0, .inr (.inr (some (331)))), (1, .inl (v1)), (2, .inr (.inl (v2))), (4, .inl (v4))] [] M (some (.inl Rr.1), sd_rp Rr.2, 0, 0)) (v1 : Int) (v2 : Int) (v4 : Int) (M : sd_M) (Rr : Int × sd_M) (h : f_X10_choice_65 k7 v1 v2 v4 M = some Rr) : sd_B X d sd_q_X10_choice 65 [(0, .inr (.inr (some (331)))), (1, .inl (v1)), (2, .inr (.inl (v2))), (4, .inl (v4))] [] M (some (.inl Rr.1), sd_rp Rr.2, 0, 0) := by
  unfold f_X10_choice_65 at h
  refine sd_b_go 2 (pc2 := 7) (lv2 := [(4, .inl (sd_w (v4 + 1))), (0, .inr (.inr (some (331)))), (1, .inl (v1)), (2, .inr (.inl (v2)))]) (st2 := []) rfl ?_
  refine sd_b_wk [(0, .inr (.inr (some (331)))), (1, .inl (v1)), (2, .inr (.inl (v2))), (4, .inl (sd_w (v4 + 1)))] (List.forall_mem_cons.mpr ⟨rfl, (List.forall_mem_cons.mpr ⟨rfl, (List.forall_mem_cons.mpr ⟨rfl, (List.forall_mem_cons.mpr ⟨rfl, (fun _ h0 => absurd h0 List.not_mem_nil)⟩)⟩)⟩)⟩) ?_
  exact hk7 v1 v2 (sd_w (v4 + 1)) M _ h
def f_X10_choice_47 (k7 : Int → Int → Int → sd_M → Option (Int × sd_M)) (v1 : Int) (v2 : Int) (v4 : Int) (s0 : Int) (M : sd_M) : Option (Int × sd_M) := if 0 < (sd_cmpl s0 v2) then (f_X10_choice_65 k7 v4 s0 v4 M) else (f_X10_choice_65 k7 v1 v2 v4 M)
set_option maxRecDepth 4000 in
theorem t_X10_choice_47 {X : Nat → List sd_V → List sd_E → sd_A → Prop} {d : Nat} (hd : 4 ≤ d) (k7 : Int → Int → Int → sd_M → Option (Int × sd_M)) (hk7 : ∀ (v1 : Int) (v2 : Int) (v4 : Int) (M : sd_M) (Rr : Int × sd_M), k7 v1 v2 v4 M = some Rr → sd_B X d sd_q_X10_choice 7 [(0, .inr (.inr (some (331)))), (1, .inl (v1)), (2, .inr (.inl (v2))), (4, .inl (v4))] [] M (some (.inl Rr.1), sd_rp Rr.2, 0, 0)) (v1 : Int) (v2 : Int) (v4 : Int) (s0 : Int) (M : sd_M) (Rr : Int × sd_M) (h : f_X10_choice_47 k7 v1 v2 v4 s0 M = some Rr) : sd_B X d sd_q_X10_choice 47 [(0, .inr (.inr (some (331)))), (1, .inl (v1)), (2, .inr (.inl (v2))), (4, .inl (v4))] [.inr (.inl (s0))] M (some (.inl Rr.1), sd_rp Rr.2, 0, 0) := by
  unfold f_X10_choice_47 at h
  refine sd_b_go 4 (pc2 := 53) (lv2 := [(5, .inr (.inl (s0))), (0, .inr (.inr (some (331)))), (1, .inl (v1)), (2, .inr (.inl (v2))), (4, .inl (v4))]) (st2 := [.inl (sd_cmpl s0 v2)]) rfl ?_
  by_cases c1 : 0 < (sd_cmpl s0 v2)
  · rw [if_pos c1] at h
    refine sd_b_zt (c := .gt) (tgt := 59) rfl (decide_eq_true c1) (by decide) ?_
    refine sd_b_go 4 (pc2 := 65) (lv2 := [(2, .inr (.inl (s0))), (1, .inl (v4)), (5, .inr (.inl (s0))), (0, .inr (.inr (some (331)))), (4, .inl (v4))]) (st2 := []) rfl ?_
    refine sd_b_wk [(0, .inr (.inr (some (331)))), (1, .inl (v4)), (2, .inr (.inl (s0))), (4, .inl (v4))] (List.forall_mem_cons.mpr ⟨rfl, (List.forall_mem_cons.mpr ⟨rfl, (List.forall_mem_cons.mpr ⟨rfl, (List.forall_mem_cons.mpr ⟨rfl, (fun _ h0 => absurd h0 List.not_mem_nil)⟩)⟩)⟩)⟩) ?_
    exact t_X10_choice_65 hd k7 hk7 v4 s0 v4 M _ h
  · rw [if_neg c1] at h
    refine sd_b_zf (c := .gt) rfl (decide_eq_false c1) (by decide) ?_
    refine sd_b_go 1 (pc2 := 65) (lv2 := [(5, .inr (.inl (s0))), (0, .inr (.inr (some (331)))), (1, .inl (v1)), (2, .inr (.inl (v2))), (4, .inl (v4))]) (st2 := []) rfl ?_
    refine sd_b_wk [(0, .inr (.inr (some (331)))), (1, .inl (v1)), (2, .inr (.inl (v2))), (4, .inl (v4))] (List.forall_mem_cons.mpr ⟨rfl, (List.forall_mem_cons.mpr ⟨rfl, (List.forall_mem_cons.mpr ⟨rfl, (List.forall_mem_cons.mpr ⟨rfl, (fun _ h0 => absurd h0 List.not_mem_nil)⟩)⟩)⟩)⟩) ?_
    exact t_X10_choice_65 hd k7 hk7 v1 v2 v4 M _ h
def f_X10_choice_7 : Nat → Int → Int → Int → sd_M → Option (Int × sd_M)
  | 0, _, _, _, _ => none
  | n + 1, v1, v2, v4, M => if (M 341 2) ≤ v4 then (some (v1, M)) else ((f_X10_isWaiting v4 M).bind fun r2 => if r2.1 = 0 then (f_X10_choice_65 (f_X10_choice_7 n) v1 v2 v4 r2.2) else (if 0 ≤ (r2.2 331 21) then ((f_X10_sumOf v4 r2.2).bind fun r5 => f_X10_choice_47 (f_X10_choice_7 n) v1 v2 v4 r5.1 r5.2) else (f_X10_choice_47 (f_X10_choice_7 n) v1 v2 v4 1 r2.2)))
set_option maxRecDepth 4000 in
theorem t_X10_choice_7 {X : Nat → List sd_V → List sd_E → sd_A → Prop} {d : Nat} (hd : 4 ≤ d) : ∀ (n : Nat) (v1 : Int) (v2 : Int) (v4 : Int) (M : sd_M) (Rr : Int × sd_M), f_X10_choice_7 n v1 v2 v4 M = some Rr → sd_B X d sd_q_X10_choice 7 [(0, .inr (.inr (some (331)))), (1, .inl (v1)), (2, .inr (.inl (v2))), (4, .inl (v4))] [] M (some (.inl Rr.1), sd_rp Rr.2, 0, 0) := by
  intro n
  induction n with
  | zero => intro v1 v2 v4 M Rr h; cases h
  | succ n ih =>
    intro v1 v2 v4 M Rr h
    rw [f_X10_choice_7] at h
    refine sd_b_go 2 (pc2 := 10) (lv2 := [(0, .inr (.inr (some (331)))), (1, .inl (v1)), (2, .inr (.inl (v2))), (4, .inl (v4))]) (st2 := [.inr (.inr (some (331))), .inl (v4)]) rfl ?_
    refine sd_b_gr (k := 20) sd_o_331 rfl rfl rfl ?_
    refine sd_b_go 1 (pc2 := 14) (lv2 := [(0, .inr (.inr (some (331)))), (1, .inl (v1)), (2, .inr (.inl (v2))), (4, .inl (v4))]) (st2 := [.inl (2), .inr (.inr (some (341))), .inl (v4)]) rfl ?_
    refine sd_b_ai (i := 2) (sd_oa sd_o_331 (by decide) (off := 10) (List.mem_of_getElem? (i := 9) rfl)) (by decide) rfl ?_
    by_cases c1 : (M 341 2) ≤ v4
    · rw [if_pos c1] at h
      refine sd_b_ct (c := .ge) (tgt := 71) rfl (decide_eq_true c1) (by decide) ?_
      refine sd_b_go 1 (pc2 := 72) (lv2 := [(0, .inr (.inr (some (331)))), (1, .inl (v1)), (2, .inr (.inl (v2))), (4, .inl (v4))]) (st2 := [.inl (v1)]) rfl ?_
      cases h
      exact sd_b_rt rfl rfl rfl
    · rw [if_neg c1] at h
      refine sd_b_cf (c := .ge) rfl (decide_eq_false c1) (by decide) ?_
      refine sd_b_go 2 (pc2 := 21) (lv2 := [(0, .inr (.inr (some (331)))), (1, .inl (v1)), (2, .inr (.inl (v2))), (4, .inl (v4))]) (st2 := [.inl (v4), .inr (.inr (some (331)))]) rfl ?_
      obtain ⟨r2, e2, h⟩ := sd_bnd h
      refine sd_b_call [.inr (.inr (some (331))), .inl (v4)] [] rfl rfl sd_i_X10_isWaiting rfl rfl (Nat.le_of_ble_eq_true rfl) (sd_rc_v sd_o_331) (m_X10_isWaiting (by omega) e2) ?_
      by_cases c3 : r2.1 = 0
      · rw [if_pos c3] at h
        refine sd_b_zf (c := .ne) rfl (decide_eq_false (not_not_intro c3)) (by decide) ?_
        refine sd_b_go 1 (pc2 := 65) (lv2 := [(0, .inr (.inr (some (331)))), (1, .inl (v1)), (2, .inr (.inl (v2))), (4, .inl (v4))]) (st2 := []) rfl ?_
        refine sd_b_wk [(0, .inr (.inr (some (331)))), (1, .inl (v1)), (2, .inr (.inl (v2))), (4, .inl (v4))] (List.forall_mem_cons.mpr ⟨rfl, (List.forall_mem_cons.mpr ⟨rfl, (List.forall_mem_cons.mpr ⟨rfl, (List.forall_mem_cons.mpr ⟨rfl, (fun _ h0 => absurd h0 List.not_mem_nil)⟩)⟩)⟩)⟩) ?_
        exact t_X10_choice_65 hd (f_X10_choice_7 n) ih v1 v2 v4 r2.2 _ h
      · rw [if_neg c3] at h
        refine sd_b_zt (c := .ne) (tgt := 30) rfl (decide_eq_true c3) (by decide) ?_
        refine sd_b_go 1 (pc2 := 31) (lv2 := [(0, .inr (.inr (some (331)))), (1, .inl (v1)), (2, .inr (.inl (v2))), (4, .inl (v4))]) (st2 := [.inr (.inr (some (331)))]) rfl ?_
        refine sd_b_gi (k := 21) sd_o_331 rfl rfl rfl ?_
        by_cases c4 : 0 ≤ (r2.2 331 21)
        · rw [if_pos c4] at h
          refine sd_b_zt (c := .ge) (tgt := 41) rfl (decide_eq_true c4) (by decide) ?_
          refine sd_b_go 2 (pc2 := 44) (lv2 := [(0, .inr (.inr (some (331)))), (1, .inl (v1)), (2, .inr (.inl (v2))), (4, .inl (v4))]) (st2 := [.inl (v4), .inr (.inr (some (331)))]) rfl ?_
          obtain ⟨r5, e5, h⟩ := sd_bnd h
          refine sd_b_call [.inr (.inr (some (331))), .inl (v4)] [] rfl rfl sd_i_X10_sumOf rfl rfl (Nat.le_of_ble_eq_true rfl) (sd_rc_v sd_o_331) (m_X10_sumOf (by omega) e5) ?_
          refine sd_b_wk [(0, .inr (.inr (some (331)))), (1, .inl (v1)), (2, .inr (.inl (v2))), (4, .inl (v4))] (List.forall_mem_cons.mpr ⟨rfl, (List.forall_mem_cons.mpr ⟨rfl, (List.forall_mem_cons.mpr ⟨rfl, (List.forall_mem_cons.mpr ⟨rfl, (fun _ h0 => absurd h0 List.not_mem_nil)⟩)⟩)⟩)⟩) ?_
          exact t_X10_choice_47 hd (f_X10_choice_7 n) ih v1 v2 v4 r5.1 r5.2 _ h
        · rw [if_neg c4] at h
          refine sd_b_zf (c := .ge) rfl (decide_eq_false c4) (by decide) ?_
          refine sd_b_go 2 (pc2 := 47) (lv2 := [(0, .inr (.inr (some (331)))), (1, .inl (v1)), (2, .inr (.inl (v2))), (4, .inl (v4))]) (st2 := [.inr (.inl (1))]) rfl ?_
          refine sd_b_wk [(0, .inr (.inr (some (331)))), (1, .inl (v1)), (2, .inr (.inl (v2))), (4, .inl (v4))] (List.forall_mem_cons.mpr ⟨rfl, (List.forall_mem_cons.mpr ⟨rfl, (List.forall_mem_cons.mpr ⟨rfl, (List.forall_mem_cons.mpr ⟨rfl, (fun _ h0 => absurd h0 List.not_mem_nil)⟩)⟩)⟩)⟩) ?_
          exact t_X10_choice_47 hd (f_X10_choice_7 n) ih v1 v2 v4 1 r2.2 _ h
def f_X10_choice (M : sd_M) : Option (Int × sd_M) := f_X10_choice_7 4000 ((-1)) 0 0 M
set_option maxRecDepth 4000 in
theorem t_X10_choice {X : Nat → List sd_V → List sd_E → sd_A → Prop} {d : Nat} (hd : 4 ≤ d) (M : sd_M) (Rr : Int × sd_M) (h : f_X10_choice M = some Rr) : sd_B X d sd_q_X10_choice 0 [(0, .inr (.inr (some (331))))] [] M (some (.inl Rr.1), sd_rp Rr.2, 0, 0) := by
  unfold f_X10_choice at h
  refine sd_b_go 6 (pc2 := 7) (lv2 := [(4, .inl (0)), (2, .inr (.inl (0))), (1, .inl ((-1))), (0, .inr (.inr (some (331))))]) (st2 := []) rfl ?_
  refine sd_b_wk [(0, .inr (.inr (some (331)))), (1, .inl ((-1))), (2, .inr (.inl (0))), (4, .inl (0))] (List.forall_mem_cons.mpr ⟨rfl, (List.forall_mem_cons.mpr ⟨rfl, (List.forall_mem_cons.mpr ⟨rfl, (List.forall_mem_cons.mpr ⟨rfl, (fun _ h0 => absurd h0 List.not_mem_nil)⟩)⟩)⟩)⟩) ?_
  exact t_X10_choice_7 hd 4000 ((-1)) 0 0 M _ h
theorem m_X10_choice {X : Nat → List sd_V → List sd_E → sd_A → Prop} {d : Nat} (hd : 5 ≤ d) {M : sd_M} {Rr : Int × sd_M} (h : f_X10_choice M = some Rr) : sd_Cal X d 199 [.inr (.inr (some (331)))] (sd_rp M) (some (.inl Rr.1), sd_rp Rr.2, 0, 0) := by
  obtain ⟨d, rfl⟩ : ∃ d2, d = d2 + 1 := ⟨d - 1, by omega⟩
  exact sd_cal_of sd_i_X10_choice (Nat.le_of_ble_eq_true rfl) (t_X10_choice (by omega) M Rr h)
-- X10_passes
def sd_q_X10_passes : sd_MI := (yX10_passes, cX10_passes, 2, (some .int), 10, 0, sd_t_X10_passes)
set_option maxRecDepth 4000 in
theorem sd_i_X10_passes : sd_mL[200]? = some sd_q_X10_passes := rfl
def f_X10_passes_14 (v1 : Int) (M : sd_M) : Option (Int × sd_M) := (f_X10_settlesAll M).bind fun r1 => some (v1, sd_s r1.2 341 58 (sd_w ((r1.2 341 58) + 1)))
set_option maxRecDepth 4000 in
theorem t_X10_passes_14 {X : Nat → List sd_V → List sd_E → sd_A → Prop} {d : Nat} (hd : 6 ≤ d) (v1 : Int) (M : sd_M) (Rr : Int × sd_M) (h : f_X10_passes_14 v1 M = some Rr) : sd_B X d sd_q_X10_passes 14 [(0, .inr (.inr (some (331)))), (1, .inl (v1))] [] M (some (.inl Rr.1), sd_rp Rr.2, 0, 0) := by
  unfold f_X10_passes_14 at h
  refine sd_b_go 1 (pc2 := 15) (lv2 := [(0, .inr (.inr (some (331)))), (1, .inl (v1))]) (st2 := [.inr (.inr (some (331)))]) rfl ?_
  obtain ⟨r1, e1, h⟩ := sd_bnd h
  refine sd_b_call [.inr (.inr (some (331)))] [] rfl rfl sd_i_X10_settlesAll rfl rfl (Nat.le_of_ble_eq_true rfl) (sd_rc_v sd_o_331) (m_X10_settlesAll (by omega) e1) ?_
  refine sd_b_go 1 (pc2 := 19) (lv2 := [(0, .inr (.inr (some (331)))), (1, .inl (v1))]) (st2 := [.inr (.inr (some (331)))]) rfl ?_
  refine sd_b_gr (k := 20) sd_o_331 rfl rfl rfl ?_
  refine sd_b_go 2 (pc2 := 25) (lv2 := [(0, .inr (.inr (some (331)))), (1, .inl (v1))]) (st2 := [.inl (58), .inr (.inr (some (341))), .inl (58), .inr (.inr (some (341)))]) rfl ?_
  refine sd_b_ai (i := 58) (sd_oa sd_o_331 (by decide) (off := 10) (List.mem_of_getElem? (i := 9) rfl)) (by decide) rfl ?_
  refine sd_b_go 2 (pc2 := 28) (lv2 := [(0, .inr (.inr (some (331)))), (1, .inl (v1))]) (st2 := [.inl (sd_w ((r1.2 341 58) + 1)), .inl (58), .inr (.inr (some (341)))]) rfl ?_
  refine sd_b_si (i := 58) (sd_oa sd_o_331 (by decide) (off := 10) (List.mem_of_getElem? (i := 9) rfl)) (by decide) rfl ?_
  refine sd_b_go 1 (pc2 := 30) (lv2 := [(0, .inr (.inr (some (331)))), (1, .inl (v1))]) (st2 := [.inl (v1)]) rfl ?_
  cases h
  exact sd_b_rt rfl rfl rfl
def f_X10_passes (M : sd_M) : Option (Int × sd_M) := (f_X10_choice M).bind fun r1 => if r1.1 < 0 then (f_X10_passes_14 r1.1 r1.2) else ((f_X10_takes r1.1 r1.2).bind fun r3 => f_X10_passes_14 r1.1 r3.2)
set_option maxRecDepth 4000 in
theorem t_X10_passes {X : Nat → List sd_V → List sd_E → sd_A → Prop} {d : Nat} (hd : 6 ≤ d) (M : sd_M) (Rr : Int × sd_M) (h : f_X10_passes M = some Rr) : sd_B X d sd_q_X10_passes 0 [(0, .inr (.inr (some (331))))] [] M (some (.inl Rr.1), sd_rp Rr.2, 0, 0) := by
  unfold f_X10_passes at h
  refine sd_b_go 1 (pc2 := 1) (lv2 := [(0, .inr (.inr (some (331))))]) (st2 := [.inr (.inr (some (331)))]) rfl ?_
  obtain ⟨r1, e1, h⟩ := sd_bnd h
  refine sd_b_call [.inr (.inr (some (331)))] [] rfl rfl sd_i_X10_choice rfl rfl (Nat.le_of_ble_eq_true rfl) (sd_rc_v sd_o_331) (m_X10_choice (by omega) e1) ?_
  refine sd_b_go 2 (pc2 := 6) (lv2 := [(1, .inl (r1.1)), (0, .inr (.inr (some (331))))]) (st2 := [.inl (r1.1)]) rfl ?_
  by_cases c2 : r1.1 < 0
  · rw [if_pos c2] at h
    refine sd_b_zt (c := .lt) (tgt := 14) rfl (decide_eq_true c2) (by decide) ?_
    refine sd_b_wk [(0, .inr (.inr (some (331)))), (1, .inl (r1.1))] (List.forall_mem_cons.mpr ⟨rfl, (List.forall_mem_cons.mpr ⟨rfl, (fun _ h0 => absurd h0 List.not_mem_nil)⟩)⟩) ?_
    exact t_X10_passes_14 hd r1.1 r1.2 _ h
  · rw [if_neg c2] at h
    refine sd_b_zf (c := .lt) rfl (decide_eq_false c2) (by decide) ?_
    refine sd_b_go 2 (pc2 := 11) (lv2 := [(1, .inl (r1.1)), (0, .inr (.inr (some (331))))]) (st2 := [.inl (r1.1), .inr (.inr (some (331)))]) rfl ?_
    obtain ⟨r3, e3, h⟩ := sd_bnd h
    refine sd_b_call [.inr (.inr (some (331))), .inl (r1.1)] [] rfl rfl sd_i_X10_takes rfl rfl (Nat.le_of_ble_eq_true rfl) (sd_rc_v sd_o_331) (m_X10_takes (by omega) e3) ?_
    refine sd_b_wk [(0, .inr (.inr (some (331)))), (1, .inl (r1.1))] (List.forall_mem_cons.mpr ⟨rfl, (List.forall_mem_cons.mpr ⟨rfl, (fun _ h0 => absurd h0 List.not_mem_nil)⟩)⟩) ?_
    exact t_X10_passes_14 hd r1.1 r3.2 _ h
theorem m_X10_passes {X : Nat → List sd_V → List sd_E → sd_A → Prop} {d : Nat} (hd : 7 ≤ d) {M : sd_M} {Rr : Int × sd_M} (h : f_X10_passes M = some Rr) : sd_Cal X d 200 [.inr (.inr (some (331)))] (sd_rp M) (some (.inl Rr.1), sd_rp Rr.2, 0, 0) := by
  obtain ⟨d, rfl⟩ : ∃ d2, d = d2 + 1 := ⟨d - 1, by omega⟩
  exact sd_cal_of sd_i_X10_passes (Nat.le_of_ble_eq_true rfl) (t_X10_passes (by omega) M Rr h)
-- X10_passesAll
def sd_q_X10_passesAll : sd_MI := (yX10_passesAll, cX10_passesAll, 3, none, 10, 1, sd_t_X10_passesAll)
set_option maxRecDepth 4000 in
theorem sd_i_X10_passesAll : sd_mL[201]? = some sd_q_X10_passesAll := rfl
def f_X10_passesAll_2 : Nat → Int → Int → sd_M → Option (Int × sd_M)
  | 0, _, _, _ => none
  | n + 1, v1, v2, M => if v1 ≤ v2 then (some (0, M)) else ((f_X10_passes M).bind fun r2 => f_X10_passesAll_2 n v1 (sd_w (v2 + 1)) r2.2)
set_option maxRecDepth 4000 in
theorem t_X10_passesAll_2 {X : Nat → List sd_V → List sd_E → sd_A → Prop} {d : Nat} (hd : 7 ≤ d) : ∀ (n : Nat) (v1 : Int) (v2 : Int) (M : sd_M) (Rr : Int × sd_M), f_X10_passesAll_2 n v1 v2 M = some Rr → sd_B X d sd_q_X10_passesAll 2 [(0, .inr (.inr (some (331)))), (1, .inl (v1)), (2, .inl (v2))] [] M (none, sd_rp Rr.2, 0, 0) := by
  intro n
  induction n with
  | zero => intro v1 v2 M Rr h; cases h
  | succ n ih =>
    intro v1 v2 M Rr h
    rw [f_X10_passesAll_2] at h
    refine sd_b_go 2 (pc2 := 4) (lv2 := [(0, .inr (.inr (some (331)))), (1, .inl (v1)), (2, .inl (v2))]) (st2 := [.inl (v1), .inl (v2)]) rfl ?_
    by_cases c1 : v1 ≤ v2
    · rw [if_pos c1] at h
      refine sd_b_ct (c := .ge) (tgt := 18) rfl (decide_eq_true c1) (by decide) ?_
      cases h
      exact sd_b_rt rfl rfl rfl
    · rw [if_neg c1] at h
      refine sd_b_cf (c := .ge) rfl (decide_eq_false c1) (by decide) ?_
      refine sd_b_go 1 (pc2 := 8) (lv2 := [(0, .inr (.inr (some (331)))), (1, .inl (v1)), (2, .inl (v2))]) (st2 := [.inr (.inr (some (331)))]) rfl ?_
      obtain ⟨r2, e2, h⟩ := sd_bnd h
      refine sd_b_call [.inr (.inr (some (331)))] [] rfl rfl sd_i_X10_passes rfl rfl (Nat.le_of_ble_eq_true rfl) (sd_rc_v sd_o_331) (m_X10_passes (by omega) e2) ?_
      refine sd_b_go 3 (pc2 := 2) (lv2 := [(2, .inl (sd_w (v2 + 1))), (0, .inr (.inr (some (331)))), (1, .inl (v1))]) (st2 := []) rfl ?_
      refine sd_b_wk [(0, .inr (.inr (some (331)))), (1, .inl (v1)), (2, .inl (sd_w (v2 + 1)))] (List.forall_mem_cons.mpr ⟨rfl, (List.forall_mem_cons.mpr ⟨rfl, (List.forall_mem_cons.mpr ⟨rfl, (fun _ h0 => absurd h0 List.not_mem_nil)⟩)⟩)⟩) ?_
      exact ih v1 (sd_w (v2 + 1)) r2.2 _ h
def f_X10_passesAll (p1 : Int) (M : sd_M) : Option (Int × sd_M) := f_X10_passesAll_2 4000 p1 0 M
set_option maxRecDepth 4000 in
theorem t_X10_passesAll {X : Nat → List sd_V → List sd_E → sd_A → Prop} {d : Nat} (hd : 7 ≤ d) (p1 : Int) (M : sd_M) (Rr : Int × sd_M) (h : f_X10_passesAll p1 M = some Rr) : sd_B X d sd_q_X10_passesAll 0 [(0, .inr (.inr (some (331)))), (1, .inl (p1))] [] M (none, sd_rp Rr.2, 0, 0) := by
  unfold f_X10_passesAll at h
  refine sd_b_go 2 (pc2 := 2) (lv2 := [(2, .inl (0)), (0, .inr (.inr (some (331)))), (1, .inl (p1))]) (st2 := []) rfl ?_
  refine sd_b_wk [(0, .inr (.inr (some (331)))), (1, .inl (p1)), (2, .inl (0))] (List.forall_mem_cons.mpr ⟨rfl, (List.forall_mem_cons.mpr ⟨rfl, (List.forall_mem_cons.mpr ⟨rfl, (fun _ h0 => absurd h0 List.not_mem_nil)⟩)⟩)⟩) ?_
  exact t_X10_passesAll_2 hd 4000 p1 0 M _ h
theorem m_X10_passesAll {X : Nat → List sd_V → List sd_E → sd_A → Prop} {d : Nat} (hd : 8 ≤ d) {p1 : Int} {M : sd_M} {Rr : Int × sd_M} (h : f_X10_passesAll p1 M = some Rr) : sd_Cal X d 201 [.inr (.inr (some (331))), .inl (p1)] (sd_rp M) (none, sd_rp Rr.2, 0, 0) := by
  obtain ⟨d, rfl⟩ : ∃ d2, d = d2 + 1 := ⟨d - 1, by omega⟩
  exact sd_cal_of sd_i_X10_passesAll (Nat.le_of_ble_eq_true rfl) (t_X10_passesAll (by omega) p1 M Rr h)
-- X10_keepsAct
def sd_q_X10_keepsAct : sd_MI := (yX10_keepsAct, cX10_keepsAct, 2, none, 10, 0, sd_t_X10_keepsAct)
set_option maxRecDepth 4000 in
theorem sd_i_X10_keepsAct : sd_mL[202]? = some sd_q_X10_keepsAct := rfl
def f_X10_keepsAct_52 (k87 : sd_M → Option (Int × sd_M)) : Nat → Int → sd_M → Option (Int × sd_M)
  | 0, _, _ => none
  | n + 1, v1, M => if 49 ≤ v1 then (k87 M) else (if 0 ≤ (sd_w (58 + v1)) ∧ (sd_w (58 + v1)) < 128 then (if 0 ≤ (sd_w ((sd_w (49 * (M 331 27))) + v1)) ∧ (sd_w ((sd_w (49 * (M 331 27))) + v1)) < 980 then (f_X10_keepsAct_52 k87 n (sd_w (v1 + 1)) (sd_s M 345 (sd_w ((sd_w (49 * (M 331 27))) + v1)).toNat (M 341 (sd_w (58 + v1)).toNat))) else none) else none)
set_option maxRecDepth 4000 in
theorem t_X10_keepsAct_52 {X : Nat → List sd_V → List sd_E → sd_A → Prop} {d : Nat} (hd : 0 ≤ d) (k87 : sd_M → Option (Int × sd_M)) (hk87 : ∀ (M : sd_M) (Rr : Int × sd_M), k87 M = some Rr → sd_B X d sd_q_X10_keepsAct 87 [(0, .inr (.inr (some (331))))] [] M (none, sd_rp Rr.2, 0, 0)) : ∀ (n : Nat) (v1 : Int) (M : sd_M) (Rr : Int × sd_M), f_X10_keepsAct_52 k87 n v1 M = some Rr → sd_B X d sd_q_X10_keepsAct 52 [(0, .inr (.inr (some (331)))), (1, .inl (v1))] [] M (none, sd_rp Rr.2, 0, 0) := by
  intro n
  induction n with
  | zero => intro v1 M Rr h; cases h
  | succ n ih =>
    intro v1 M Rr h
    rw [f_X10_keepsAct_52] at h
    refine sd_b_go 2 (pc2 := 55) (lv2 := [(0, .inr (.inr (some (331)))), (1, .inl (v1))]) (st2 := [.inl (49), .inl (v1)]) rfl ?_
    by_cases c1 : 49 ≤ v1
    · rw [if_pos c1] at h
      refine sd_b_ct (c := .ge) (tgt := 87) rfl (decide_eq_true c1) (by decide) ?_
      refine sd_b_wk [(0, .inr (.inr (some (331))))] (List.forall_mem_cons.mpr ⟨rfl, (fun _ h0 => absurd h0 List.not_mem_nil)⟩) ?_
      exact hk87 M _ h
    · rw [if_neg c1] at h
      refine sd_b_cf (c := .ge) rfl (decide_eq_false c1) (by decide) ?_
      refine sd_b_go 1 (pc2 := 59) (lv2 := [(0, .inr (.inr (some (331)))), (1, .inl (v1))]) (st2 := [.inr (.inr (some (331)))]) rfl ?_
      refine sd_b_gr (k := 26) sd_o_331 rfl rfl rfl ?_
      refine sd_b_go 2 (pc2 := 65) (lv2 := [(0, .inr (.inr (some (331)))), (1, .inl (v1))]) (st2 := [.inr (.inr (some (331))), .inl (49), .inr (.inr (some (345)))]) rfl ?_
      refine sd_b_gi (k := 27) sd_o_331 rfl rfl rfl ?_
      refine sd_b_go 4 (pc2 := 72) (lv2 := [(0, .inr (.inr (some (331)))), (1, .inl (v1))]) (st2 := [.inr (.inr (some (331))), .inl (sd_w ((sd_w (49 * (M 331 27))) + v1)), .inr (.inr (some (345)))]) rfl ?_
      refine sd_b_gr (k := 20) sd_o_331 rfl rfl rfl ?_
      refine sd_b_go 3 (pc2 := 79) (lv2 := [(0, .inr (.inr (some (331)))), (1, .inl (v1))]) (st2 := [.inl (sd_w (58 + v1)), .inr (.inr (some (341))), .inl (sd_w ((sd_w (49 * (M 331 27))) + v1)), .inr (.inr (some (345)))]) rfl ?_
      obtain ⟨g2, h⟩ := sd_if h
      refine sd_b_ai (sd_oa sd_o_331 (by decide) (off := 10) (List.mem_of_getElem? (i := 9) rfl)) g2 rfl ?_
      obtain ⟨g3, h⟩ := sd_if h
      refine sd_b_si (sd_oa sd_o_331 (by decide) (off := 14) (List.mem_of_getElem? (i := 13) rfl)) g3 rfl ?_
      refine sd_b_go 2 (pc2 := 52) (lv2 := [(1, .inl (sd_w (v1 + 1))), (0, .inr (.inr (some (331))))]) (st2 := []) rfl ?_
      refine sd_b_wk [(0, .inr (.inr (some (331)))), (1, .inl (sd_w (v1 + 1)))] (List.forall_mem_cons.mpr ⟨rfl, (List.forall_mem_cons.mpr ⟨rfl, (fun _ h0 => absurd h0 List.not_mem_nil)⟩)⟩) ?_
      exact ih (sd_w (v1 + 1)) (sd_s M 345 (sd_w ((sd_w (49 * (M 331 27))) + v1)).toNat (M 341 (sd_w (58 + v1)).toNat)) _ h
def f_X10_keepsAct_87 (M : sd_M) : Option (Int × sd_M) := some (0, sd_s M 331 27 (sd_w ((M 331 27) + 1)))
set_option maxRecDepth 4000 in
theorem t_X10_keepsAct_87 {X : Nat → List sd_V → List sd_E → sd_A → Prop} {d : Nat} (hd : 0 ≤ d) (M : sd_M) (Rr : Int × sd_M) (h : f_X10_keepsAct_87 M = some Rr) : sd_B X d sd_q_X10_keepsAct 87 [(0, .inr (.inr (some (331))))] [] M (none, sd_rp Rr.2, 0, 0) := by
  unfold f_X10_keepsAct_87 at h
  refine sd_b_go 2 (pc2 := 89) (lv2 := [(0, .inr (.inr (some (331))))]) (st2 := [.inr (.inr (some (331))), .inr (.inr (some (331)))]) rfl ?_
  refine sd_b_gi (k := 27) sd_o_331 rfl rfl rfl ?_
  refine sd_b_go 2 (pc2 := 94) (lv2 := [(0, .inr (.inr (some (331))))]) (st2 := [.inl (sd_w ((M 331 27) + 1)), .inr (.inr (some (331)))]) rfl ?_
  refine sd_b_pi (k := 27) sd_o_331 rfl rfl rfl rfl rfl ?_
  cases h
  exact sd_b_rt rfl rfl rfl
def f_X10_keepsAct_50 (M : sd_M) : Option (Int × sd_M) := f_X10_keepsAct_52 (f_X10_keepsAct_87) 4000 0 M
set_option maxRecDepth 4000 in
theorem t_X10_keepsAct_50 {X : Nat → List sd_V → List sd_E → sd_A → Prop} {d : Nat} (hd : 0 ≤ d) (M : sd_M) (Rr : Int × sd_M) (h : f_X10_keepsAct_50 M = some Rr) : sd_B X d sd_q_X10_keepsAct 50 [(0, .inr (.inr (some (331))))] [] M (none, sd_rp Rr.2, 0, 0) := by
  unfold f_X10_keepsAct_50 at h
  refine sd_b_go 2 (pc2 := 52) (lv2 := [(1, .inl (0)), (0, .inr (.inr (some (331))))]) (st2 := []) rfl ?_
  refine sd_b_wk [(0, .inr (.inr (some (331)))), (1, .inl (0))] (List.forall_mem_cons.mpr ⟨rfl, (List.forall_mem_cons.mpr ⟨rfl, (fun _ h0 => absurd h0 List.not_mem_nil)⟩)⟩) ?_
  exact t_X10_keepsAct_52 hd (f_X10_keepsAct_87) (t_X10_keepsAct_87 hd) 4000 0 M _ h
def f_X10_keepsAct_12 (k40 : sd_M → Option (Int × sd_M)) : Nat → Int → sd_M → Option (Int × sd_M)
  | 0, _, _ => none
  | n + 1, v1, M => if 980 ≤ v1 then (k40 M) else (if 0 ≤ v1 ∧ v1 < 980 then (if 0 ≤ (sd_w (v1 - 49)) ∧ (sd_w (v1 - 49)) < 980 then (f_X10_keepsAct_12 k40 n (sd_w (v1 + 1)) (sd_s M 345 (sd_w (v1 - 49)).toNat (M 345 v1.toNat))) else none) else none)
set_option maxRecDepth 4000 in
theorem t_X10_keepsAct_12 {X : Nat → List sd_V → List sd_E → sd_A → Prop} {d : Nat} (hd : 0 ≤ d) (k40 : sd_M → Option (Int × sd_M)) (hk40 : ∀ (M : sd_M) (Rr : Int × sd_M), k40 M = some Rr → sd_B X d sd_q_X10_keepsAct 40 [(0, .inr (.inr (some (331))))] [] M (none, sd_rp Rr.2, 0, 0)) : ∀ (n : Nat) (v1 : Int) (M : sd_M) (Rr : Int × sd_M), f_X10_keepsAct_12 k40 n v1 M = some Rr → sd_B X d sd_q_X10_keepsAct 12 [(0, .inr (.inr (some (331)))), (1, .inl (v1))] [] M (none, sd_rp Rr.2, 0, 0) := by
  intro n
  induction n with
  | zero => intro v1 M Rr h; cases h
  | succ n ih =>
    intro v1 M Rr h
    rw [f_X10_keepsAct_12] at h
    refine sd_b_go 2 (pc2 := 16) (lv2 := [(0, .inr (.inr (some (331)))), (1, .inl (v1))]) (st2 := [.inl (980), .inl (v1)]) rfl ?_
    by_cases c1 : 980 ≤ v1
    · rw [if_pos c1] at h
      refine sd_b_ct (c := .ge) (tgt := 40) rfl (decide_eq_true c1) (by decide) ?_
      refine sd_b_wk [(0, .inr (.inr (some (331))))] (List.forall_mem_cons.mpr ⟨rfl, (fun _ h0 => absurd h0 List.not_mem_nil)⟩) ?_
      exact hk40 M _ h
    · rw [if_neg c1] at h
      refine sd_b_cf (c := .ge) rfl (decide_eq_false c1) (by decide) ?_
      refine sd_b_go 1 (pc2 := 20) (lv2 := [(0, .inr (.inr (some (331)))), (1, .inl (v1))]) (st2 := [.inr (.inr (some (331)))]) rfl ?_
      refine sd_b_gr (k := 26) sd_o_331 rfl rfl rfl ?_
      refine sd_b_go 4 (pc2 := 28) (lv2 := [(0, .inr (.inr (some (331)))), (1, .inl (v1))]) (st2 := [.inr (.inr (some (331))), .inl (sd_w (v1 - 49)), .inr (.inr (some (345)))]) rfl ?_
      refine sd_b_gr (k := 26) sd_o_331 rfl rfl rfl ?_
      refine sd_b_go 1 (pc2 := 32) (lv2 := [(0, .inr (.inr (some (331)))), (1, .inl (v1))]) (st2 := [.inl (v1), .inr (.inr (some (345))), .inl (sd_w (v1 - 49)), .inr (.inr (some (345)))]) rfl ?_
      obtain ⟨g2, h⟩ := sd_if h
      refine sd_b_ai (sd_oa sd_o_331 (by decide) (off := 14) (List.mem_of_getElem? (i := 13) rfl)) g2 rfl ?_
      obtain ⟨g3, h⟩ := sd_if h
      refine sd_b_si (sd_oa sd_o_331 (by decide) (off := 14) (List.mem_of_getElem? (i := 13) rfl)) g3 rfl ?_
      refine sd_b_go 2 (pc2 := 12) (lv2 := [(1, .inl (sd_w (v1 + 1))), (0, .inr (.inr (some (331))))]) (st2 := []) rfl ?_
      refine sd_b_wk [(0, .inr (.inr (some (331)))), (1, .inl (sd_w (v1 + 1)))] (List.forall_mem_cons.mpr ⟨rfl, (List.forall_mem_cons.mpr ⟨rfl, (fun _ h0 => absurd h0 List.not_mem_nil)⟩)⟩) ?_
      exact ih (sd_w (v1 + 1)) (sd_s M 345 (sd_w (v1 - 49)).toNat (M 345 v1.toNat)) _ h
def f_X10_keepsAct_40 (M : sd_M) : Option (Int × sd_M) := f_X10_keepsAct_50 (sd_s M 331 27 (sd_w ((M 331 27) - 1)))
set_option maxRecDepth 4000 in
theorem t_X10_keepsAct_40 {X : Nat → List sd_V → List sd_E → sd_A → Prop} {d : Nat} (hd : 0 ≤ d) (M : sd_M) (Rr : Int × sd_M) (h : f_X10_keepsAct_40 M = some Rr) : sd_B X d sd_q_X10_keepsAct 40 [(0, .inr (.inr (some (331))))] [] M (none, sd_rp Rr.2, 0, 0) := by
  unfold f_X10_keepsAct_40 at h
  refine sd_b_go 2 (pc2 := 42) (lv2 := [(0, .inr (.inr (some (331))))]) (st2 := [.inr (.inr (some (331))), .inr (.inr (some (331)))]) rfl ?_
  refine sd_b_gi (k := 27) sd_o_331 rfl rfl rfl ?_
  refine sd_b_go 2 (pc2 := 47) (lv2 := [(0, .inr (.inr (some (331))))]) (st2 := [.inl (sd_w ((M 331 27) - 1)), .inr (.inr (some (331)))]) rfl ?_
  refine sd_b_pi (k := 27) sd_o_331 rfl rfl rfl rfl rfl ?_
  refine sd_b_wk [(0, .inr (.inr (some (331))))] (List.forall_mem_cons.mpr ⟨rfl, (fun _ h0 => absurd h0 List.not_mem_nil)⟩) ?_
  exact t_X10_keepsAct_50 hd (sd_s M 331 27 (sd_w ((M 331 27) - 1))) _ h
def f_X10_keepsAct (M : sd_M) : Option (Int × sd_M) := if (M 331 27) = 20 then (f_X10_keepsAct_12 (f_X10_keepsAct_40) 4000 49 M) else (f_X10_keepsAct_50 M)
set_option maxRecDepth 4000 in
theorem t_X10_keepsAct {X : Nat → List sd_V → List sd_E → sd_A → Prop} {d : Nat} (hd : 0 ≤ d) (M : sd_M) (Rr : Int × sd_M) (h : f_X10_keepsAct M = some Rr) : sd_B X d sd_q_X10_keepsAct 0 [(0, .inr (.inr (some (331))))] [] M (none, sd_rp Rr.2, 0, 0) := by
  unfold f_X10_keepsAct at h
  refine sd_b_go 1 (pc2 := 1) (lv2 := [(0, .inr (.inr (some (331))))]) (st2 := [.inr (.inr (some (331)))]) rfl ?_
  refine sd_b_gi (k := 27) sd_o_331 rfl rfl rfl ?_
  refine sd_b_go 1 (pc2 := 6) (lv2 := [(0, .inr (.inr (some (331))))]) (st2 := [.inl (20), .inl (M 331 27)]) rfl ?_
  by_cases c1 : (M 331 27) = 20
  · rw [if_pos c1] at h
    refine sd_b_cf (c := .ne) rfl (decide_eq_false (not_not_intro c1)) (by decide) ?_
    refine sd_b_go 2 (pc2 := 12) (lv2 := [(1, .inl (49)), (0, .inr (.inr (some (331))))]) (st2 := []) rfl ?_
    refine sd_b_wk [(0, .inr (.inr (some (331)))), (1, .inl (49))] (List.forall_mem_cons.mpr ⟨rfl, (List.forall_mem_cons.mpr ⟨rfl, (fun _ h0 => absurd h0 List.not_mem_nil)⟩)⟩) ?_
    exact t_X10_keepsAct_12 hd (f_X10_keepsAct_40) (t_X10_keepsAct_40 hd) 4000 49 M _ h
  · rw [if_neg c1] at h
    refine sd_b_ct (c := .ne) (tgt := 50) rfl (decide_eq_true c1) (by decide) ?_
    refine sd_b_wk [(0, .inr (.inr (some (331))))] (List.forall_mem_cons.mpr ⟨rfl, (fun _ h0 => absurd h0 List.not_mem_nil)⟩) ?_
    exact t_X10_keepsAct_50 hd M _ h
theorem m_X10_keepsAct {X : Nat → List sd_V → List sd_E → sd_A → Prop} {d : Nat} (hd : 1 ≤ d) {M : sd_M} {Rr : Int × sd_M} (h : f_X10_keepsAct M = some Rr) : sd_Cal X d 202 [.inr (.inr (some (331)))] (sd_rp M) (none, sd_rp Rr.2, 0, 0) := by
  obtain ⟨d, rfl⟩ : ∃ d2, d = d2 + 1 := ⟨d - 1, by omega⟩
  exact sd_cal_of sd_i_X10_keepsAct (Nat.le_of_ble_eq_true rfl) (t_X10_keepsAct (by omega) M Rr h)
-- X10_undo
def sd_q_X10_undo : sd_MI := (yX10_undo, cX10_undo, 2, (some .int), 10, 0, sd_t_X10_undo)
set_option maxRecDepth 4000 in
theorem sd_i_X10_undo : sd_mL[203]? = some sd_q_X10_undo := rfl
def f_X10_undo_21 (k56 : sd_M → Option (Int × sd_M)) : Nat → Int → sd_M → Option (Int × sd_M)
  | 0, _, _ => none
  | n + 1, v1, M => if 49 ≤ v1 then (k56 M) else (if 0 ≤ (sd_w ((sd_w (49 * (M 331 27))) + v1)) ∧ (sd_w ((sd_w (49 * (M 331 27))) + v1)) < 980 then (if 0 ≤ (sd_w (58 + v1)) ∧ (sd_w (58 + v1)) < 128 then (f_X10_undo_21 k56 n (sd_w (v1 + 1)) (sd_s M 341 (sd_w (58 + v1)).toNat (M 345 (sd_w ((sd_w (49 * (M 331 27))) + v1)).toNat))) else none) else none)
set_option maxRecDepth 4000 in
theorem t_X10_undo_21 {X : Nat → List sd_V → List sd_E → sd_A → Prop} {d : Nat} (hd : 0 ≤ d) (k56 : sd_M → Option (Int × sd_M)) (hk56 : ∀ (M : sd_M) (Rr : Int × sd_M), k56 M = some Rr → sd_B X d sd_q_X10_undo 56 [(0, .inr (.inr (some (331))))] [] M (some (.inl Rr.1), sd_rp Rr.2, 0, 0)) : ∀ (n : Nat) (v1 : Int) (M : sd_M) (Rr : Int × sd_M), f_X10_undo_21 k56 n v1 M = some Rr → sd_B X d sd_q_X10_undo 21 [(0, .inr (.inr (some (331)))), (1, .inl (v1))] [] M (some (.inl Rr.1), sd_rp Rr.2, 0, 0) := by
  intro n
  induction n with
  | zero => intro v1 M Rr h; cases h
  | succ n ih =>
    intro v1 M Rr h
    rw [f_X10_undo_21] at h
    refine sd_b_go 2 (pc2 := 24) (lv2 := [(0, .inr (.inr (some (331)))), (1, .inl (v1))]) (st2 := [.inl (49), .inl (v1)]) rfl ?_
    by_cases c1 : 49 ≤ v1
    · rw [if_pos c1] at h
      refine sd_b_ct (c := .ge) (tgt := 56) rfl (decide_eq_true c1) (by decide) ?_
      refine sd_b_wk [(0, .inr (.inr (some (331))))] (List.forall_mem_cons.mpr ⟨rfl, (fun _ h0 => absurd h0 List.not_mem_nil)⟩) ?_
      exact hk56 M _ h
    · rw [if_neg c1] at h
      refine sd_b_cf (c := .ge) rfl (decide_eq_false c1) (by decide) ?_
      refine sd_b_go 1 (pc2 := 28) (lv2 := [(0, .inr (.inr (some (331)))), (1, .inl (v1))]) (st2 := [.inr (.inr (some (331)))]) rfl ?_
      refine sd_b_gr (k := 20) sd_o_331 rfl rfl rfl ?_
      refine sd_b_go 4 (pc2 := 36) (lv2 := [(0, .inr (.inr (some (331)))), (1, .inl (v1))]) (st2 := [.inr (.inr (some (331))), .inl (sd_w (58 + v1)), .inr (.inr (some (341)))]) rfl ?_
      refine sd_b_gr (k := 26) sd_o_331 rfl rfl rfl ?_
      refine sd_b_go 2 (pc2 := 42) (lv2 := [(0, .inr (.inr (some (331)))), (1, .inl (v1))]) (st2 := [.inr (.inr (some (331))), .inl (49), .inr (.inr (some (345))), .inl (sd_w (58 + v1)), .inr (.inr (some (341)))]) rfl ?_
      refine sd_b_gi (k := 27) sd_o_331 rfl rfl rfl ?_
      refine sd_b_go 3 (pc2 := 48) (lv2 := [(0, .inr (.inr (some (331)))), (1, .inl (v1))]) (st2 := [.inl (sd_w ((sd_w (49 * (M 331 27))) + v1)), .inr (.inr (some (345))), .inl (sd_w (58 + v1)), .inr (.inr (some (341)))]) rfl ?_
      obtain ⟨g2, h⟩ := sd_if h
      refine sd_b_ai (sd_oa sd_o_331 (by decide) (off := 14) (List.mem_of_getElem? (i := 13) rfl)) g2 rfl ?_
      obtain ⟨g3, h⟩ := sd_if h
      refine sd_b_si (sd_oa sd_o_331 (by decide) (off := 10) (List.mem_of_getElem? (i := 9) rfl)) g3 rfl ?_
      refine sd_b_go 2 (pc2 := 21) (lv2 := [(1, .inl (sd_w (v1 + 1))), (0, .inr (.inr (some (331))))]) (st2 := []) rfl ?_
      refine sd_b_wk [(0, .inr (.inr (some (331)))), (1, .inl (sd_w (v1 + 1)))] (List.forall_mem_cons.mpr ⟨rfl, (List.forall_mem_cons.mpr ⟨rfl, (fun _ h0 => absurd h0 List.not_mem_nil)⟩)⟩) ?_
      exact ih (sd_w (v1 + 1)) (sd_s M 341 (sd_w (58 + v1)).toNat (M 345 (sd_w ((sd_w (49 * (M 331 27))) + v1)).toNat)) _ h
def f_X10_undo_56 (M : sd_M) : Option (Int × sd_M) := some (M 331 27, M)
set_option maxRecDepth 4000 in
theorem t_X10_undo_56 {X : Nat → List sd_V → List sd_E → sd_A → Prop} {d : Nat} (hd : 0 ≤ d) (M : sd_M) (Rr : Int × sd_M) (h : f_X10_undo_56 M = some Rr) : sd_B X d sd_q_X10_undo 56 [(0, .inr (.inr (some (331))))] [] M (some (.inl Rr.1), sd_rp Rr.2, 0, 0) := by
  unfold f_X10_undo_56 at h
  refine sd_b_go 1 (pc2 := 57) (lv2 := [(0, .inr (.inr (some (331))))]) (st2 := [.inr (.inr (some (331)))]) rfl ?_
  refine sd_b_gi (k := 27) sd_o_331 rfl rfl rfl ?_
  cases h
  exact sd_b_rt rfl rfl rfl
def f_X10_undo (M : sd_M) : Option (Int × sd_M) := if (M 331 27) = 0 then (some ((-1), M)) else (f_X10_undo_21 (f_X10_undo_56) 4000 0 (sd_s M 331 27 (sd_w ((M 331 27) - 1))))
set_option maxRecDepth 4000 in
theorem t_X10_undo {X : Nat → List sd_V → List sd_E → sd_A → Prop} {d : Nat} (hd : 0 ≤ d) (M : sd_M) (Rr : Int × sd_M) (h : f_X10_undo M = some Rr) : sd_B X d sd_q_X10_undo 0 [(0, .inr (.inr (some (331))))] [] M (some (.inl Rr.1), sd_rp Rr.2, 0, 0) := by
  unfold f_X10_undo at h
  refine sd_b_go 1 (pc2 := 1) (lv2 := [(0, .inr (.inr (some (331))))]) (st2 := [.inr (.inr (some (331)))]) rfl ?_
  refine sd_b_gi (k := 27) sd_o_331 rfl rfl rfl ?_
  by_cases c1 : (M 331 27) = 0
  · rw [if_pos c1] at h
    refine sd_b_zf (c := .ne) rfl (decide_eq_false (not_not_intro c1)) (by decide) ?_
    refine sd_b_go 1 (pc2 := 8) (lv2 := [(0, .inr (.inr (some (331))))]) (st2 := [.inl ((-1))]) rfl ?_
    cases h
    exact sd_b_rt rfl rfl rfl
  · rw [if_neg c1] at h
    refine sd_b_zt (c := .ne) (tgt := 9) rfl (decide_eq_true c1) (by decide) ?_
    refine sd_b_go 2 (pc2 := 11) (lv2 := [(0, .inr (.inr (some (331))))]) (st2 := [.inr (.inr (some (331))), .inr (.inr (some (331)))]) rfl ?_
    refine sd_b_gi (k := 27) sd_o_331 rfl rfl rfl ?_
    refine sd_b_go 2 (pc2 := 16) (lv2 := [(0, .inr (.inr (some (331))))]) (st2 := [.inl (sd_w ((M 331 27) - 1)), .inr (.inr (some (331)))]) rfl ?_
    refine sd_b_pi (k := 27) sd_o_331 rfl rfl rfl rfl rfl ?_
    refine sd_b_go 2 (pc2 := 21) (lv2 := [(1, .inl (0)), (0, .inr (.inr (some (331))))]) (st2 := []) rfl ?_
    refine sd_b_wk [(0, .inr (.inr (some (331)))), (1, .inl (0))] (List.forall_mem_cons.mpr ⟨rfl, (List.forall_mem_cons.mpr ⟨rfl, (fun _ h0 => absurd h0 List.not_mem_nil)⟩)⟩) ?_
    exact t_X10_undo_21 hd (f_X10_undo_56) (t_X10_undo_56 hd) 4000 0 (sd_s M 331 27 (sd_w ((M 331 27) - 1))) _ h
theorem m_X10_undo {X : Nat → List sd_V → List sd_E → sd_A → Prop} {d : Nat} (hd : 1 ≤ d) {M : sd_M} {Rr : Int × sd_M} (h : f_X10_undo M = some Rr) : sd_Cal X d 203 [.inr (.inr (some (331)))] (sd_rp M) (some (.inl Rr.1), sd_rp Rr.2, 0, 0) := by
  obtain ⟨d, rfl⟩ : ∃ d2, d = d2 + 1 := ⟨d - 1, by omega⟩
  exact sd_cal_of sd_i_X10_undo (Nat.le_of_ble_eq_true rfl) (t_X10_undo (by omega) M Rr h)
-- X10_day
def sd_q_X10_day : sd_MI := (yX10_day, cX10_day, 2, (some .int), 10, 0, sd_t_X10_day)
set_option maxRecDepth 4000 in
theorem sd_i_X10_day : sd_mL[204]? = some sd_q_X10_day := rfl
def f_X10_day (M : sd_M) : Option (Int × sd_M) := (f_X10_isSlip M).bind fun r1 => if r1.1 = 0 then (some ((-1), r1.2)) else (if (r1.2 341 58) = 999 then (some ((-1), r1.2)) else ((f_X10_keepsAct r1.2).bind fun r4 => (f_X10_passes r4.2).bind fun r5 => if 0 ≤ r5.1 then (some (r5.1, r5.2)) else (some ((-2), r5.2))))
set_option maxRecDepth 4000 in
theorem t_X10_day {X : Nat → List sd_V → List sd_E → sd_A → Prop} {d : Nat} (hd : 7 ≤ d) (M : sd_M) (Rr : Int × sd_M) (h : f_X10_day M = some Rr) : sd_B X d sd_q_X10_day 0 [(0, .inr (.inr (some (331))))] [] M (some (.inl Rr.1), sd_rp Rr.2, 0, 0) := by
  unfold f_X10_day at h
  refine sd_b_go 1 (pc2 := 1) (lv2 := [(0, .inr (.inr (some (331))))]) (st2 := [.inr (.inr (some (331)))]) rfl ?_
  obtain ⟨r1, e1, h⟩ := sd_bnd h
  refine sd_b_call [.inr (.inr (some (331)))] [] rfl rfl sd_i_X10_isSlip rfl rfl (Nat.le_of_ble_eq_true rfl) (sd_rc_v sd_o_331) (m_X10_isSlip (by omega) e1) ?_
  by_cases c2 : r1.1 = 0
  · rw [if_pos c2] at h
    refine sd_b_zt (c := .eq) (tgt := 20) rfl (decide_eq_true c2) (by decide) ?_
    refine sd_b_go 1 (pc2 := 21) (lv2 := [(0, .inr (.inr (some (331))))]) (st2 := [.inl ((-1))]) rfl ?_
    cases h
    exact sd_b_rt rfl rfl rfl
  · rw [if_neg c2] at h
    refine sd_b_zf (c := .eq) rfl (decide_eq_false c2) (by decide) ?_
    refine sd_b_go 1 (pc2 := 8) (lv2 := [(0, .inr (.inr (some (331))))]) (st2 := [.inr (.inr (some (331)))]) rfl ?_
    refine sd_b_gr (k := 20) sd_o_331 rfl rfl rfl ?_
    refine sd_b_go 1 (pc2 := 13) (lv2 := [(0, .inr (.inr (some (331))))]) (st2 := [.inl (58), .inr (.inr (some (341)))]) rfl ?_
    refine sd_b_ai (i := 58) (sd_oa sd_o_331 (by decide) (off := 10) (List.mem_of_getElem? (i := 9) rfl)) (by decide) rfl ?_
    refine sd_b_go 1 (pc2 := 17) (lv2 := [(0, .inr (.inr (some (331))))]) (st2 := [.inl (999), .inl (r1.2 341 58)]) rfl ?_
    by_cases c3 : (r1.2 341 58) = 999
    · rw [if_pos c3] at h
      refine sd_b_cf (c := .ne) rfl (decide_eq_false (not_not_intro c3)) (by decide) ?_
      refine sd_b_go 1 (pc2 := 21) (lv2 := [(0, .inr (.inr (some (331))))]) (st2 := [.inl ((-1))]) rfl ?_
      cases h
      exact sd_b_rt rfl rfl rfl
    · rw [if_neg c3] at h
      refine sd_b_ct (c := .ne) (tgt := 22) rfl (decide_eq_true c3) (by decide) ?_
      refine sd_b_go 1 (pc2 := 23) (lv2 := [(0, .inr (.inr (some (331))))]) (st2 := [.inr (.inr (some (331)))]) rfl ?_
      obtain ⟨r4, e4, h⟩ := sd_bnd h
      refine sd_b_call [.inr (.inr (some (331)))] [] rfl rfl sd_i_X10_keepsAct rfl rfl (Nat.le_of_ble_eq_true rfl) (sd_rc_v sd_o_331) (m_X10_keepsAct (by omega) e4) ?_
      refine sd_b_go 1 (pc2 := 27) (lv2 := [(0, .inr (.inr (some (331))))]) (st2 := [.inr (.inr (some (331)))]) rfl ?_
      obtain ⟨r5, e5, h⟩ := sd_bnd h
      refine sd_b_call [.inr (.inr (some (331)))] [] rfl rfl sd_i_X10_passes rfl rfl (Nat.le_of_ble_eq_true rfl) (sd_rc_v sd_o_331) (m_X10_passes (by omega) e5) ?_
      refine sd_b_go 2 (pc2 := 32) (lv2 := [(1, .inl (r5.1)), (0, .inr (.inr (some (331))))]) (st2 := [.inl (r5.1)]) rfl ?_
      by_cases c6 : 0 ≤ r5.1
      · rw [if_pos c6] at h
        refine sd_b_zt (c := .ge) (tgt := 40) rfl (decide_eq_true c6) (by decide) ?_
        refine sd_b_go 1 (pc2 := 41) (lv2 := [(1, .inl (r5.1)), (0, .inr (.inr (some (331))))]) (st2 := [.inl (r5.1)]) rfl ?_
        cases h
        exact sd_b_rt rfl rfl rfl
      · rw [if_neg c6] at h
        refine sd_b_zf (c := .ge) rfl (decide_eq_false c6) (by decide) ?_
        refine sd_b_go 2 (pc2 := 41) (lv2 := [(1, .inl (r5.1)), (0, .inr (.inr (some (331))))]) (st2 := [.inl ((-2))]) rfl ?_
        cases h
        exact sd_b_rt rfl rfl rfl
theorem m_X10_day {X : Nat → List sd_V → List sd_E → sd_A → Prop} {d : Nat} (hd : 8 ≤ d) {M : sd_M} {Rr : Int × sd_M} (h : f_X10_day M = some Rr) : sd_Cal X d 204 [.inr (.inr (some (331)))] (sd_rp M) (some (.inl Rr.1), sd_rp Rr.2, 0, 0) := by
  obtain ⟨d, rfl⟩ : ∃ d2, d = d2 + 1 := ⟨d - 1, by omega⟩
  exact sd_cal_of sd_i_X10_day (Nat.le_of_ble_eq_true rfl) (t_X10_day (by omega) M Rr h)
-- X10_cancels
def sd_q_X10_cancels : sd_MI := (yX10_cancels, cX10_cancels, 3, (some .int), 10, 1, sd_t_X10_cancels)
set_option maxRecDepth 4000 in
theorem sd_i_X10_cancels : sd_mL[205]? = some sd_q_X10_cancels := rfl
def f_X10_cancels (p1 : Int) (M : sd_M) : Option (Int × sd_M) := (f_X10_goesOut p1 M).bind fun r1 => (f_X10_settlesAll r1.2).bind fun r2 => some (sd_w ((r2.2 341 61) - (M 341 61)), r2.2)
set_option maxRecDepth 4000 in
theorem t_X10_cancels {X : Nat → List sd_V → List sd_E → sd_A → Prop} {d : Nat} (hd : 6 ≤ d) (p1 : Int) (M : sd_M) (Rr : Int × sd_M) (h : f_X10_cancels p1 M = some Rr) : sd_B X d sd_q_X10_cancels 0 [(0, .inr (.inr (some (331)))), (1, .inl (p1))] [] M (some (.inl Rr.1), sd_rp Rr.2, 0, 0) := by
  unfold f_X10_cancels at h
  refine sd_b_go 1 (pc2 := 1) (lv2 := [(0, .inr (.inr (some (331)))), (1, .inl (p1))]) (st2 := [.inr (.inr (some (331)))]) rfl ?_
  refine sd_b_gr (k := 20) sd_o_331 rfl rfl rfl ?_
  refine sd_b_go 1 (pc2 := 6) (lv2 := [(0, .inr (.inr (some (331)))), (1, .inl (p1))]) (st2 := [.inl (61), .inr (.inr (some (341)))]) rfl ?_
  refine sd_b_ai (i := 61) (sd_oa sd_o_331 (by decide) (off := 10) (List.mem_of_getElem? (i := 9) rfl)) (by decide) rfl ?_
  refine sd_b_go 3 (pc2 := 10) (lv2 := [(2, .inl (M 341 61)), (0, .inr (.inr (some (331)))), (1, .inl (p1))]) (st2 := [.inl (p1), .inr (.inr (some (331)))]) rfl ?_
  obtain ⟨r1, e1, h⟩ := sd_bnd h
  refine sd_b_call [.inr (.inr (some (331))), .inl (p1)] [] rfl rfl sd_i_X10_goesOut rfl rfl (Nat.le_of_ble_eq_true rfl) (sd_rc_v sd_o_331) (m_X10_goesOut (by omega) e1) ?_
  refine sd_b_go 1 (pc2 := 14) (lv2 := [(2, .inl (M 341 61)), (0, .inr (.inr (some (331)))), (1, .inl (p1))]) (st2 := [.inr (.inr (some (331)))]) rfl ?_
  obtain ⟨r2, e2, h⟩ := sd_bnd h
  refine sd_b_call [.inr (.inr (some (331)))] [] rfl rfl sd_i_X10_settlesAll rfl rfl (Nat.le_of_ble_eq_true rfl) (sd_rc_v sd_o_331) (m_X10_settlesAll (by omega) e2) ?_
  refine sd_b_go 1 (pc2 := 18) (lv2 := [(2, .inl (M 341 61)), (0, .inr (.inr (some (331)))), (1, .inl (p1))]) (st2 := [.inr (.inr (some (331)))]) rfl ?_
  refine sd_b_gr (k := 20) sd_o_331 rfl rfl rfl ?_
  refine sd_b_go 1 (pc2 := 23) (lv2 := [(2, .inl (M 341 61)), (0, .inr (.inr (some (331)))), (1, .inl (p1))]) (st2 := [.inl (61), .inr (.inr (some (341)))]) rfl ?_
  refine sd_b_ai (i := 61) (sd_oa sd_o_331 (by decide) (off := 10) (List.mem_of_getElem? (i := 9) rfl)) (by decide) rfl ?_
  refine sd_b_go 2 (pc2 := 26) (lv2 := [(2, .inl (M 341 61)), (0, .inr (.inr (some (331)))), (1, .inl (p1))]) (st2 := [.inl (sd_w ((r2.2 341 61) - (M 341 61)))]) rfl ?_
  cases h
  exact sd_b_rt rfl rfl rfl
theorem m_X10_cancels {X : Nat → List sd_V → List sd_E → sd_A → Prop} {d : Nat} (hd : 7 ≤ d) {p1 : Int} {M : sd_M} {Rr : Int × sd_M} (h : f_X10_cancels p1 M = some Rr) : sd_Cal X d 205 [.inr (.inr (some (331))), .inl (p1)] (sd_rp M) (some (.inl Rr.1), sd_rp Rr.2, 0, 0) := by
  obtain ⟨d, rfl⟩ : ∃ d2, d = d2 + 1 := ⟨d - 1, by omega⟩
  exact sd_cal_of sd_i_X10_cancels (Nat.le_of_ble_eq_true rfl) (t_X10_cancels (by omega) p1 M Rr h)
-- X10_cancel
def sd_q_X10_cancel : sd_MI := (yX10_cancel, cX10_cancel, 2, (some .int), 10, 1, sd_t_X10_cancel)
set_option maxRecDepth 4000 in
theorem sd_i_X10_cancel : sd_mL[206]? = some sd_q_X10_cancel := rfl
def f_X10_cancel (p1 : Int) (M : sd_M) : Option (Int × sd_M) := (f_X10_isLine p1 M).bind fun r1 => if r1.1 = 0 then (some ((-1), r1.2)) else ((f_X10_keepsAct r1.2).bind fun r3 => (f_X10_cancels p1 r3.2).bind fun r4 => some (r4.1, r4.2))
set_option maxRecDepth 4000 in
theorem t_X10_cancel {X : Nat → List sd_V → List sd_E → sd_A → Prop} {d : Nat} (hd : 7 ≤ d) (p1 : Int) (M : sd_M) (Rr : Int × sd_M) (h : f_X10_cancel p1 M = some Rr) : sd_B X d sd_q_X10_cancel 0 [(0, .inr (.inr (some (331)))), (1, .inl (p1))] [] M (some (.inl Rr.1), sd_rp Rr.2, 0, 0) := by
  unfold f_X10_cancel at h
  refine sd_b_go 2 (pc2 := 2) (lv2 := [(0, .inr (.inr (some (331)))), (1, .inl (p1))]) (st2 := [.inl (p1), .inr (.inr (some (331)))]) rfl ?_
  obtain ⟨r1, e1, h⟩ := sd_bnd h
  refine sd_b_call [.inr (.inr (some (331))), .inl (p1)] [] rfl rfl sd_i_X10_isLine rfl rfl (Nat.le_of_ble_eq_true rfl) (sd_rc_v sd_o_331) (m_X10_isLine (by omega) e1) ?_
  by_cases c2 : r1.1 = 0
  · rw [if_pos c2] at h
    refine sd_b_zf (c := .ne) rfl (decide_eq_false (not_not_intro c2)) (by decide) ?_
    refine sd_b_go 1 (pc2 := 9) (lv2 := [(0, .inr (.inr (some (331)))), (1, .inl (p1))]) (st2 := [.inl ((-1))]) rfl ?_
    cases h
    exact sd_b_rt rfl rfl rfl
  · rw [if_neg c2] at h
    refine sd_b_zt (c := .ne) (tgt := 10) rfl (decide_eq_true c2) (by decide) ?_
    refine sd_b_go 1 (pc2 := 11) (lv2 := [(0, .inr (.inr (some (331)))), (1, .inl (p1))]) (st2 := [.inr (.inr (some (331)))]) rfl ?_
    obtain ⟨r3, e3, h⟩ := sd_bnd h
    refine sd_b_call [.inr (.inr (some (331)))] [] rfl rfl sd_i_X10_keepsAct rfl rfl (Nat.le_of_ble_eq_true rfl) (sd_rc_v sd_o_331) (m_X10_keepsAct (by omega) e3) ?_
    refine sd_b_go 2 (pc2 := 16) (lv2 := [(0, .inr (.inr (some (331)))), (1, .inl (p1))]) (st2 := [.inl (p1), .inr (.inr (some (331)))]) rfl ?_
    obtain ⟨r4, e4, h⟩ := sd_bnd h
    refine sd_b_call [.inr (.inr (some (331))), .inl (p1)] [] rfl rfl sd_i_X10_cancels rfl rfl (Nat.le_of_ble_eq_true rfl) (sd_rc_v sd_o_331) (m_X10_cancels (by omega) e4) ?_
    cases h
    exact sd_b_rt rfl rfl rfl
theorem m_X10_cancel {X : Nat → List sd_V → List sd_E → sd_A → Prop} {d : Nat} (hd : 8 ≤ d) {p1 : Int} {M : sd_M} {Rr : Int × sd_M} (h : f_X10_cancel p1 M = some Rr) : sd_Cal X d 206 [.inr (.inr (some (331))), .inl (p1)] (sd_rp M) (some (.inl Rr.1), sd_rp Rr.2, 0, 0) := by
  obtain ⟨d, rfl⟩ : ∃ d2, d = d2 + 1 := ⟨d - 1, by omega⟩
  exact sd_cal_of sd_i_X10_cancel (Nat.le_of_ble_eq_true rfl) (t_X10_cancel (by omega) p1 M Rr h)
-- X10_order
def sd_q_X10_order : sd_MI := (yX10_order, cX10_order, 3, (some .int), 10, 1, sd_t_X10_order)
set_option maxRecDepth 4000 in
theorem sd_i_X10_order : sd_mL[207]? = some sd_q_X10_order := rfl
def f_X10_order (p1 : Int) (M : sd_M) : Option (Int × sd_M) := (f_X10_isSlip M).bind fun r1 => if r1.1 = 0 then (some ((-1), r1.2)) else ((f_X10_in p1 1 999 r1.2).bind fun r3 => if r3.1 = 0 then (some ((-1), r3.2)) else (if (r3.2 341 59) = p1 then (some ((-1), r3.2)) else ((f_X10_keepsAct r3.2).bind fun r6 => (f_X10_settlesAll (sd_s r6.2 341 59 p1)).bind fun r7 => some (sd_w ((r7.2 341 61) - (r6.2 341 61)), r7.2))))
set_option maxRecDepth 4000 in
theorem t_X10_order {X : Nat → List sd_V → List sd_E → sd_A → Prop} {d : Nat} (hd : 6 ≤ d) (p1 : Int) (M : sd_M) (Rr : Int × sd_M) (h : f_X10_order p1 M = some Rr) : sd_B X d sd_q_X10_order 0 [(0, .inr (.inr (some (331)))), (1, .inl (p1))] [] M (some (.inl Rr.1), sd_rp Rr.2, 0, 0) := by
  unfold f_X10_order at h
  refine sd_b_go 1 (pc2 := 1) (lv2 := [(0, .inr (.inr (some (331)))), (1, .inl (p1))]) (st2 := [.inr (.inr (some (331)))]) rfl ?_
  obtain ⟨r1, e1, h⟩ := sd_bnd h
  refine sd_b_call [.inr (.inr (some (331)))] [] rfl rfl sd_i_X10_isSlip rfl rfl (Nat.le_of_ble_eq_true rfl) (sd_rc_v sd_o_331) (m_X10_isSlip (by omega) e1) ?_
  by_cases c2 : r1.1 = 0
  · rw [if_pos c2] at h
    refine sd_b_zt (c := .eq) (tgt := 30) rfl (decide_eq_true c2) (by decide) ?_
    refine sd_b_go 1 (pc2 := 31) (lv2 := [(0, .inr (.inr (some (331)))), (1, .inl (p1))]) (st2 := [.inl ((-1))]) rfl ?_
    cases h
    exact sd_b_rt rfl rfl rfl
  · rw [if_neg c2] at h
    refine sd_b_zf (c := .eq) rfl (decide_eq_false c2) (by decide) ?_
    refine sd_b_go 4 (pc2 := 13) (lv2 := [(0, .inr (.inr (some (331)))), (1, .inl (p1))]) (st2 := [.inr (.inl (999)), .inr (.inl (1)), .inr (.inl (p1))]) rfl ?_
    obtain ⟨r3, e3, h⟩ := sd_bnd h
    refine sd_b_call [.inr (.inl (p1)), .inr (.inl (1)), .inr (.inl (999))] [] rfl rfl sd_i_X10_in rfl rfl (Nat.le_of_ble_eq_true rfl) rfl (m_X10_in (by omega) e3) ?_
    by_cases c4 : r3.1 = 0
    · rw [if_pos c4] at h
      refine sd_b_zt (c := .eq) (tgt := 30) rfl (decide_eq_true c4) (by decide) ?_
      refine sd_b_go 1 (pc2 := 31) (lv2 := [(0, .inr (.inr (some (331)))), (1, .inl (p1))]) (st2 := [.inl ((-1))]) rfl ?_
      cases h
      exact sd_b_rt rfl rfl rfl
    · rw [if_neg c4] at h
      refine sd_b_zf (c := .eq) rfl (decide_eq_false c4) (by decide) ?_
      refine sd_b_go 1 (pc2 := 20) (lv2 := [(0, .inr (.inr (some (331)))), (1, .inl (p1))]) (st2 := [.inr (.inr (some (331)))]) rfl ?_
      refine sd_b_gr (k := 20) sd_o_331 rfl rfl rfl ?_
      refine sd_b_go 1 (pc2 := 25) (lv2 := [(0, .inr (.inr (some (331)))), (1, .inl (p1))]) (st2 := [.inl (59), .inr (.inr (some (341)))]) rfl ?_
      refine sd_b_ai (i := 59) (sd_oa sd_o_331 (by decide) (off := 10) (List.mem_of_getElem? (i := 9) rfl)) (by decide) rfl ?_
      refine sd_b_go 1 (pc2 := 27) (lv2 := [(0, .inr (.inr (some (331)))), (1, .inl (p1))]) (st2 := [.inl (p1), .inl (r3.2 341 59)]) rfl ?_
      by_cases c5 : (r3.2 341 59) = p1
      · rw [if_pos c5] at h
        refine sd_b_cf (c := .ne) rfl (decide_eq_false (not_not_intro c5)) (by decide) ?_
        refine sd_b_go 1 (pc2 := 31) (lv2 := [(0, .inr (.inr (some (331)))), (1, .inl (p1))]) (st2 := [.inl ((-1))]) rfl ?_
        cases h
        exact sd_b_rt rfl rfl rfl
      · rw [if_neg c5] at h
        refine sd_b_ct (c := .ne) (tgt := 32) rfl (decide_eq_true c5) (by decide) ?_
        refine sd_b_go 1 (pc2 := 33) (lv2 := [(0, .inr (.inr (some (331)))), (1, .inl (p1))]) (st2 := [.inr (.inr (some (331)))]) rfl ?_
        obtain ⟨r6, e6, h⟩ := sd_bnd h
        refine sd_b_call [.inr (.inr (some (331)))] [] rfl rfl sd_i_X10_keepsAct rfl rfl (Nat.le_of_ble_eq_true rfl) (sd_rc_v sd_o_331) (m_X10_keepsAct (by omega) e6) ?_
        refine sd_b_go 1 (pc2 := 37) (lv2 := [(0, .inr (.inr (some (331)))), (1, .inl (p1))]) (st2 := [.inr (.inr (some (331)))]) rfl ?_
        refine sd_b_gr (k := 20) sd_o_331 rfl rfl rfl ?_
        refine sd_b_go 1 (pc2 := 42) (lv2 := [(0, .inr (.inr (some (331)))), (1, .inl (p1))]) (st2 := [.inl (61), .inr (.inr (some (341)))]) rfl ?_
        refine sd_b_ai (i := 61) (sd_oa sd_o_331 (by decide) (off := 10) (List.mem_of_getElem? (i := 9) rfl)) (by decide) rfl ?_
        refine sd_b_go 2 (pc2 := 45) (lv2 := [(2, .inl (r6.2 341 61)), (0, .inr (.inr (some (331)))), (1, .inl (p1))]) (st2 := [.inr (.inr (some (331)))]) rfl ?_
        refine sd_b_gr (k := 20) sd_o_331 rfl rfl rfl ?_
        refine sd_b_go 2 (pc2 := 51) (lv2 := [(2, .inl (r6.2 341 61)), (0, .inr (.inr (some (331)))), (1, .inl (p1))]) (st2 := [.inl (p1), .inl (59), .inr (.inr (some (341)))]) rfl ?_
        refine sd_b_si (i := 59) (sd_oa sd_o_331 (by decide) (off := 10) (List.mem_of_getElem? (i := 9) rfl)) (by decide) rfl ?_
        refine sd_b_go 1 (pc2 := 53) (lv2 := [(2, .inl (r6.2 341 61)), (0, .inr (.inr (some (331)))), (1, .inl (p1))]) (st2 := [.inr (.inr (some (331)))]) rfl ?_
        obtain ⟨r7, e7, h⟩ := sd_bnd h
        refine sd_b_call [.inr (.inr (some (331)))] [] rfl rfl sd_i_X10_settlesAll rfl rfl (Nat.le_of_ble_eq_true rfl) (sd_rc_v sd_o_331) (m_X10_settlesAll (by omega) e7) ?_
        refine sd_b_go 1 (pc2 := 57) (lv2 := [(2, .inl (r6.2 341 61)), (0, .inr (.inr (some (331)))), (1, .inl (p1))]) (st2 := [.inr (.inr (some (331)))]) rfl ?_
        refine sd_b_gr (k := 20) sd_o_331 rfl rfl rfl ?_
        refine sd_b_go 1 (pc2 := 62) (lv2 := [(2, .inl (r6.2 341 61)), (0, .inr (.inr (some (331)))), (1, .inl (p1))]) (st2 := [.inl (61), .inr (.inr (some (341)))]) rfl ?_
        refine sd_b_ai (i := 61) (sd_oa sd_o_331 (by decide) (off := 10) (List.mem_of_getElem? (i := 9) rfl)) (by decide) rfl ?_
        refine sd_b_go 2 (pc2 := 65) (lv2 := [(2, .inl (r6.2 341 61)), (0, .inr (.inr (some (331)))), (1, .inl (p1))]) (st2 := [.inl (sd_w ((r7.2 341 61) - (r6.2 341 61)))]) rfl ?_
        cases h
        exact sd_b_rt rfl rfl rfl
theorem m_X10_order {X : Nat → List sd_V → List sd_E → sd_A → Prop} {d : Nat} (hd : 7 ≤ d) {p1 : Int} {M : sd_M} {Rr : Int × sd_M} (h : f_X10_order p1 M = some Rr) : sd_Cal X d 207 [.inr (.inr (some (331))), .inl (p1)] (sd_rp M) (some (.inl Rr.1), sd_rp Rr.2, 0, 0) := by
  obtain ⟨d, rfl⟩ : ∃ d2, d = d2 + 1 := ⟨d - 1, by omega⟩
  exact sd_cal_of sd_i_X10_order (Nat.le_of_ble_eq_true rfl) (t_X10_order (by omega) p1 M Rr h)
-- X10_write
def sd_q_X10_write : sd_MI := (yX10_write, cX10_write, 3, (some .int), 10, 2, sd_t_X10_write)
set_option maxRecDepth 4000 in
theorem sd_i_X10_write : sd_mL[208]? = some sd_q_X10_write := rfl
def f_X10_write (p1 : Int) (p2 : Int) (M : sd_M) : Option (Int × sd_M) := (f_X10_isLine p1 M).bind fun r1 => if r1.1 = 0 then (some ((-1), r1.2)) else ((f_X10_in p2 1 999 r1.2).bind fun r3 => if r3.1 = 0 then (some ((-1), r3.2)) else (if 0 ≤ (sd_w (62 + p1)) ∧ (sd_w (62 + p1)) < 128 then (if ((r3.2) 341 (sd_w (62 + p1)).toNat) = p2 then (some ((-1), r3.2)) else ((f_X10_keepsAct r3.2).bind fun r7 => if 0 ≤ (sd_w (62 + p1)) ∧ (sd_w (62 + p1)) < 128 then ((f_X10_settlesAll (sd_s r7.2 341 (sd_w (62 + p1)).toNat p2)).bind fun r9 => (f_X10_isLine p1 r9.2).bind fun r10 => if r10.1 = 0 then (some ((-2), r10.2)) else ((f_X10_signedOf p1 r10.2).bind fun r12 => some (r12.1, r12.2))) else none)) else none))
set_option maxRecDepth 4000 in
theorem t_X10_write {X : Nat → List sd_V → List sd_E → sd_A → Prop} {d : Nat} (hd : 6 ≤ d) (p1 : Int) (p2 : Int) (M : sd_M) (Rr : Int × sd_M) (h : f_X10_write p1 p2 M = some Rr) : sd_B X d sd_q_X10_write 0 [(0, .inr (.inr (some (331)))), (1, .inl (p1)), (2, .inl (p2))] [] M (some (.inl Rr.1), sd_rp Rr.2, 0, 0) := by
  unfold f_X10_write at h
  refine sd_b_go 2 (pc2 := 2) (lv2 := [(0, .inr (.inr (some (331)))), (1, .inl (p1)), (2, .inl (p2))]) (st2 := [.inl (p1), .inr (.inr (some (331)))]) rfl ?_
  obtain ⟨r1, e1, h⟩ := sd_bnd h
  refine sd_b_call [.inr (.inr (some (331))), .inl (p1)] [] rfl rfl sd_i_X10_isLine rfl rfl (Nat.le_of_ble_eq_true rfl) (sd_rc_v sd_o_331) (m_X10_isLine (by omega) e1) ?_
  by_cases c2 : r1.1 = 0
  · rw [if_pos c2] at h
    refine sd_b_zt (c := .eq) (tgt := 33) rfl (decide_eq_true c2) (by decide) ?_
    refine sd_b_go 1 (pc2 := 34) (lv2 := [(0, .inr (.inr (some (331)))), (1, .inl (p1)), (2, .inl (p2))]) (st2 := [.inl ((-1))]) rfl ?_
    cases h
    exact sd_b_rt rfl rfl rfl
  · rw [if_neg c2] at h
    refine sd_b_zf (c := .eq) rfl (decide_eq_false c2) (by decide) ?_
    refine sd_b_go 4 (pc2 := 14) (lv2 := [(0, .inr (.inr (some (331)))), (1, .inl (p1)), (2, .inl (p2))]) (st2 := [.inr (.inl (999)), .inr (.inl (1)), .inr (.inl (p2))]) rfl ?_
    obtain ⟨r3, e3, h⟩ := sd_bnd h
    refine sd_b_call [.inr (.inl (p2)), .inr (.inl (1)), .inr (.inl (999))] [] rfl rfl sd_i_X10_in rfl rfl (Nat.le_of_ble_eq_true rfl) rfl (m_X10_in (by omega) e3) ?_
    by_cases c4 : r3.1 = 0
    · rw [if_pos c4] at h
      refine sd_b_zt (c := .eq) (tgt := 33) rfl (decide_eq_true c4) (by decide) ?_
      refine sd_b_go 1 (pc2 := 34) (lv2 := [(0, .inr (.inr (some (331)))), (1, .inl (p1)), (2, .inl (p2))]) (st2 := [.inl ((-1))]) rfl ?_
      cases h
      exact sd_b_rt rfl rfl rfl
    · rw [if_neg c4] at h
      refine sd_b_zf (c := .eq) rfl (decide_eq_false c4) (by decide) ?_
      refine sd_b_go 1 (pc2 := 21) (lv2 := [(0, .inr (.inr (some (331)))), (1, .inl (p1)), (2, .inl (p2))]) (st2 := [.inr (.inr (some (331)))]) rfl ?_
      refine sd_b_gr (k := 20) sd_o_331 rfl rfl rfl ?_
      refine sd_b_go 3 (pc2 := 28) (lv2 := [(0, .inr (.inr (some (331)))), (1, .inl (p1)), (2, .inl (p2))]) (st2 := [.inl (sd_w (62 + p1)), .inr (.inr (some (341)))]) rfl ?_
      obtain ⟨g5, h⟩ := sd_if h
      refine sd_b_ai (sd_oa sd_o_331 (by decide) (off := 10) (List.mem_of_getElem? (i := 9) rfl)) g5 rfl ?_
      refine sd_b_go 1 (pc2 := 30) (lv2 := [(0, .inr (.inr (some (331)))), (1, .inl (p1)), (2, .inl (p2))]) (st2 := [.inl (p2), .inl ((r3.2) 341 (sd_w (62 + p1)).toNat)]) rfl ?_
      by_cases c6 : ((r3.2) 341 (sd_w (62 + p1)).toNat) = p2
      · rw [if_pos c6] at h
        refine sd_b_cf (c := .ne) rfl (decide_eq_false (not_not_intro c6)) (by decide) ?_
        refine sd_b_go 1 (pc2 := 34) (lv2 := [(0, .inr (.inr (some (331)))), (1, .inl (p1)), (2, .inl (p2))]) (st2 := [.inl ((-1))]) rfl ?_
        cases h
        exact sd_b_rt rfl rfl rfl
      · rw [if_neg c6] at h
        refine sd_b_ct (c := .ne) (tgt := 35) rfl (decide_eq_true c6) (by decide) ?_
        refine sd_b_go 1 (pc2 := 36) (lv2 := [(0, .inr (.inr (some (331)))), (1, .inl (p1)), (2, .inl (p2))]) (st2 := [.inr (.inr (some (331)))]) rfl ?_
        obtain ⟨r7, e7, h⟩ := sd_bnd h
        refine sd_b_call [.inr (.inr (some (331)))] [] rfl rfl sd_i_X10_keepsAct rfl rfl (Nat.le_of_ble_eq_true rfl) (sd_rc_v sd_o_331) (m_X10_keepsAct (by omega) e7) ?_
        refine sd_b_go 1 (pc2 := 40) (lv2 := [(0, .inr (.inr (some (331)))), (1, .inl (p1)), (2, .inl (p2))]) (st2 := [.inr (.inr (some (331)))]) rfl ?_
        refine sd_b_gr (k := 20) sd_o_331 rfl rfl rfl ?_
        refine sd_b_go 4 (pc2 := 48) (lv2 := [(0, .inr (.inr (some (331)))), (1, .inl (p1)), (2, .inl (p2))]) (st2 := [.inl (p2), .inl (sd_w (62 + p1)), .inr (.inr (some (341)))]) rfl ?_
        obtain ⟨g8, h⟩ := sd_if h
        refine sd_b_si (sd_oa sd_o_331 (by decide) (off := 10) (List.mem_of_getElem? (i := 9) rfl)) g8 rfl ?_
        refine sd_b_go 1 (pc2 := 50) (lv2 := [(0, .inr (.inr (some (331)))), (1, .inl (p1)), (2, .inl (p2))]) (st2 := [.inr (.inr (some (331)))]) rfl ?_
        obtain ⟨r9, e9, h⟩ := sd_bnd h
        refine sd_b_call [.inr (.inr (some (331)))] [] rfl rfl sd_i_X10_settlesAll rfl rfl (Nat.le_of_ble_eq_true rfl) (sd_rc_v sd_o_331) (m_X10_settlesAll (by omega) e9) ?_
        refine sd_b_go 2 (pc2 := 55) (lv2 := [(0, .inr (.inr (some (331)))), (1, .inl (p1)), (2, .inl (p2))]) (st2 := [.inl (p1), .inr (.inr (some (331)))]) rfl ?_
        obtain ⟨r10, e10, h⟩ := sd_bnd h
        refine sd_b_call [.inr (.inr (some (331))), .inl (p1)] [] rfl rfl sd_i_X10_isLine rfl rfl (Nat.le_of_ble_eq_true rfl) (sd_rc_v sd_o_331) (m_X10_isLine (by omega) e10) ?_
        by_cases c11 : r10.1 = 0
        · rw [if_pos c11] at h
          refine sd_b_zt (c := .eq) (tgt := 69) rfl (decide_eq_true c11) (by decide) ?_
          refine sd_b_go 1 (pc2 := 71) (lv2 := [(0, .inr (.inr (some (331)))), (1, .inl (p1)), (2, .inl (p2))]) (st2 := [.inl ((-2))]) rfl ?_
          cases h
          exact sd_b_rt rfl rfl rfl
        · rw [if_neg c11] at h
          refine sd_b_zf (c := .eq) rfl (decide_eq_false c11) (by decide) ?_
          refine sd_b_go 2 (pc2 := 63) (lv2 := [(0, .inr (.inr (some (331)))), (1, .inl (p1)), (2, .inl (p2))]) (st2 := [.inl (p1), .inr (.inr (some (331)))]) rfl ?_
          obtain ⟨r12, e12, h⟩ := sd_bnd h
          refine sd_b_call [.inr (.inr (some (331))), .inl (p1)] [] rfl rfl sd_i_X10_signedOf rfl rfl (Nat.le_of_ble_eq_true rfl) (sd_rc_v sd_o_331) (m_X10_signedOf (by omega) e12) ?_
          refine sd_b_go 1 (pc2 := 71) (lv2 := [(0, .inr (.inr (some (331)))), (1, .inl (p1)), (2, .inl (p2))]) (st2 := [.inl (r12.1)]) rfl ?_
          cases h
          exact sd_b_rt rfl rfl rfl
theorem m_X10_write {X : Nat → List sd_V → List sd_E → sd_A → Prop} {d : Nat} (hd : 7 ≤ d) {p1 : Int} {p2 : Int} {M : sd_M} {Rr : Int × sd_M} (h : f_X10_write p1 p2 M = some Rr) : sd_Cal X d 208 [.inr (.inr (some (331))), .inl (p1), .inl (p2)] (sd_rp M) (some (.inl Rr.1), sd_rp Rr.2, 0, 0) := by
  obtain ⟨d, rfl⟩ : ∃ d2, d = d2 + 1 := ⟨d - 1, by omega⟩
  exact sd_cal_of sd_i_X10_write (Nat.le_of_ble_eq_true rfl) (t_X10_write (by omega) p1 p2 M Rr h)
-- X10_partsBySigned
def sd_q_X10_partsBySigned : sd_MI := (yX10_partsBySigned, cX10_partsBySigned, 3, none, 10, 1, sd_t_X10_partsBySigned)
set_option maxRecDepth 4000 in
theorem sd_i_X10_partsBySigned : sd_mL[209]? = some sd_q_X10_partsBySigned := rfl
def f_X10_partsBySigned_6 (k35 : Int → sd_M → Option (Int × sd_M)) : Nat → Int → Int → sd_M → Option (Int × sd_M)
  | 0, _, _, _ => none
  | n + 1, v1, v2, M => if (M 341 60) ≤ v2 then (k35 v1 M) else (if 0 ≤ v2 ∧ v2 < 9 then (if 0 ≤ v2 ∧ v2 < 9 then (f_X10_partsBySigned_6 k35 n v1 (sd_w (v2 + 1)) (sd_s M 342 v2.toNat (M 344 v2.toNat))) else none) else none)
set_option maxRecDepth 4000 in
theorem t_X10_partsBySigned_6 {X : Nat → List sd_V → List sd_E → sd_A → Prop} {d : Nat} (hd : 2 ≤ d) (k35 : Int → sd_M → Option (Int × sd_M)) (hk35 : ∀ (v1 : Int) (M : sd_M) (Rr : Int × sd_M), k35 v1 M = some Rr → sd_B X d sd_q_X10_partsBySigned 35 [(0, .inr (.inr (some (331)))), (1, .inl (v1))] [] M (none, sd_rp Rr.2, 0, 0)) : ∀ (n : Nat) (v1 : Int) (v2 : Int) (M : sd_M) (Rr : Int × sd_M), f_X10_partsBySigned_6 k35 n v1 v2 M = some Rr → sd_B X d sd_q_X10_partsBySigned 6 [(0, .inr (.inr (some (331)))), (1, .inl (v1)), (2, .inl (v2))] [] M (none, sd_rp Rr.2, 0, 0) := by
  intro n
  induction n with
  | zero => intro v1 v2 M Rr h; cases h
  | succ n ih =>
    intro v1 v2 M Rr h
    rw [f_X10_partsBySigned_6] at h
    refine sd_b_go 2 (pc2 := 8) (lv2 := [(0, .inr (.inr (some (331)))), (1, .inl (v1)), (2, .inl (v2))]) (st2 := [.inr (.inr (some (331))), .inl (v2)]) rfl ?_
    refine sd_b_gr (k := 20) sd_o_331 rfl rfl rfl ?_
    refine sd_b_go 1 (pc2 := 13) (lv2 := [(0, .inr (.inr (some (331)))), (1, .inl (v1)), (2, .inl (v2))]) (st2 := [.inl (60), .inr (.inr (some (341))), .inl (v2)]) rfl ?_
    refine sd_b_ai (i := 60) (sd_oa sd_o_331 (by decide) (off := 10) (List.mem_of_getElem? (i := 9) rfl)) (by decide) rfl ?_
    by_cases c1 : (M 341 60) ≤ v2
    · rw [if_pos c1] at h
      refine sd_b_ct (c := .ge) (tgt := 35) rfl (decide_eq_true c1) (by decide) ?_
      refine sd_b_wk [(0, .inr (.inr (some (331)))), (1, .inl (v1))] (List.forall_mem_cons.mpr ⟨rfl, (List.forall_mem_cons.mpr ⟨rfl, (fun _ h0 => absurd h0 List.not_mem_nil)⟩)⟩) ?_
      exact hk35 v1 M _ h
    · rw [if_neg c1] at h
      refine sd_b_cf (c := .ge) rfl (decide_eq_false c1) (by decide) ?_
      refine sd_b_go 1 (pc2 := 18) (lv2 := [(0, .inr (.inr (some (331)))), (1, .inl (v1)), (2, .inl (v2))]) (st2 := [.inr (.inr (some (331)))]) rfl ?_
      refine sd_b_gr (k := 23) sd_o_331 rfl rfl rfl ?_
      refine sd_b_go 2 (pc2 := 23) (lv2 := [(0, .inr (.inr (some (331)))), (1, .inl (v1)), (2, .inl (v2))]) (st2 := [.inr (.inr (some (331))), .inl (v2), .inr (.inr (some (342)))]) rfl ?_
      refine sd_b_gr (k := 25) sd_o_331 rfl rfl rfl ?_
      refine sd_b_go 1 (pc2 := 27) (lv2 := [(0, .inr (.inr (some (331)))), (1, .inl (v1)), (2, .inl (v2))]) (st2 := [.inl (v2), .inr (.inr (some (344))), .inl (v2), .inr (.inr (some (342)))]) rfl ?_
      obtain ⟨g2, h⟩ := sd_if h
      refine sd_b_ai (sd_oa sd_o_331 (by decide) (off := 13) (List.mem_of_getElem? (i := 12) rfl)) g2 rfl ?_
      obtain ⟨g3, h⟩ := sd_if h
      refine sd_b_si (sd_oa sd_o_331 (by decide) (off := 11) (List.mem_of_getElem? (i := 10) rfl)) g3 rfl ?_
      refine sd_b_go 2 (pc2 := 6) (lv2 := [(2, .inl (sd_w (v2 + 1))), (0, .inr (.inr (some (331)))), (1, .inl (v1))]) (st2 := []) rfl ?_
      refine sd_b_wk [(0, .inr (.inr (some (331)))), (1, .inl (v1)), (2, .inl (sd_w (v2 + 1)))] (List.forall_mem_cons.mpr ⟨rfl, (List.forall_mem_cons.mpr ⟨rfl, (List.forall_mem_cons.mpr ⟨rfl, (fun _ h0 => absurd h0 List.not_mem_nil)⟩)⟩)⟩) ?_
      exact ih v1 (sd_w (v2 + 1)) (sd_s M 342 v2.toNat (M 344 v2.toNat)) _ h
def f_X10_partsBySigned_35 (v1 : Int) (M : sd_M) : Option (Int × sd_M) := (f_X10_parts v1 M).bind fun r1 => some (0, r1.2)
set_option maxRecDepth 4000 in
theorem t_X10_partsBySigned_35 {X : Nat → List sd_V → List sd_E → sd_A → Prop} {d : Nat} (hd : 2 ≤ d) (v1 : Int) (M : sd_M) (Rr : Int × sd_M) (h : f_X10_partsBySigned_35 v1 M = some Rr) : sd_B X d sd_q_X10_partsBySigned 35 [(0, .inr (.inr (some (331)))), (1, .inl (v1))] [] M (none, sd_rp Rr.2, 0, 0) := by
  unfold f_X10_partsBySigned_35 at h
  refine sd_b_go 2 (pc2 := 37) (lv2 := [(0, .inr (.inr (some (331)))), (1, .inl (v1))]) (st2 := [.inl (v1), .inr (.inr (some (331)))]) rfl ?_
  obtain ⟨r1, e1, h⟩ := sd_bnd h
  refine sd_b_call [.inr (.inr (some (331))), .inl (v1)] [] rfl rfl sd_i_X10_parts rfl rfl (Nat.le_of_ble_eq_true rfl) (sd_rc_v sd_o_331) (m_X10_parts (by omega) e1) ?_
  cases h
  exact sd_b_rt rfl rfl rfl
def f_X10_partsBySigned (p1 : Int) (M : sd_M) : Option (Int × sd_M) := (f_X10_signs M).bind fun r1 => f_X10_partsBySigned_6 (f_X10_partsBySigned_35) 4000 p1 0 r1.2
set_option maxRecDepth 4000 in
theorem t_X10_partsBySigned {X : Nat → List sd_V → List sd_E → sd_A → Prop} {d : Nat} (hd : 2 ≤ d) (p1 : Int) (M : sd_M) (Rr : Int × sd_M) (h : f_X10_partsBySigned p1 M = some Rr) : sd_B X d sd_q_X10_partsBySigned 0 [(0, .inr (.inr (some (331)))), (1, .inl (p1))] [] M (none, sd_rp Rr.2, 0, 0) := by
  unfold f_X10_partsBySigned at h
  refine sd_b_go 1 (pc2 := 1) (lv2 := [(0, .inr (.inr (some (331)))), (1, .inl (p1))]) (st2 := [.inr (.inr (some (331)))]) rfl ?_
  obtain ⟨r1, e1, h⟩ := sd_bnd h
  refine sd_b_call [.inr (.inr (some (331)))] [] rfl rfl sd_i_X10_signs rfl rfl (Nat.le_of_ble_eq_true rfl) (sd_rc_v sd_o_331) (m_X10_signs (by omega) e1) ?_
  refine sd_b_go 2 (pc2 := 6) (lv2 := [(2, .inl (0)), (0, .inr (.inr (some (331)))), (1, .inl (p1))]) (st2 := []) rfl ?_
  refine sd_b_wk [(0, .inr (.inr (some (331)))), (1, .inl (p1)), (2, .inl (0))] (List.forall_mem_cons.mpr ⟨rfl, (List.forall_mem_cons.mpr ⟨rfl, (List.forall_mem_cons.mpr ⟨rfl, (fun _ h0 => absurd h0 List.not_mem_nil)⟩)⟩)⟩) ?_
  exact t_X10_partsBySigned_6 hd (f_X10_partsBySigned_35) (t_X10_partsBySigned_35 hd) 4000 p1 0 r1.2 _ h
theorem m_X10_partsBySigned {X : Nat → List sd_V → List sd_E → sd_A → Prop} {d : Nat} (hd : 3 ≤ d) {p1 : Int} {M : sd_M} {Rr : Int × sd_M} (h : f_X10_partsBySigned p1 M = some Rr) : sd_Cal X d 209 [.inr (.inr (some (331))), .inl (p1)] (sd_rp M) (none, sd_rp Rr.2, 0, 0) := by
  obtain ⟨d, rfl⟩ : ∃ d2, d = d2 + 1 := ⟨d - 1, by omega⟩
  exact sd_cal_of sd_i_X10_partsBySigned (Nat.le_of_ble_eq_true rfl) (t_X10_partsBySigned (by omega) p1 M Rr h)
-- X10_claim
def sd_q_X10_claim : sd_MI := (yX10_claim, cX10_claim, 4, (some .int), 10, 1, sd_t_X10_claim)
set_option maxRecDepth 4000 in
theorem sd_i_X10_claim : sd_mL[210]? = some sd_q_X10_claim := rfl
def f_X10_claim_102 (k35 : Int → sd_M → Option (Int × sd_M)) (k109 : sd_M → Option (Int × sd_M)) (v2 : Int) (s0 : Int) (s1 : Int) (M : sd_M) : Option (Int × sd_M) := if 0 ≤ s1 ∧ s1 < 128 then (k35 (sd_w (v2 + 1)) (sd_s M 341 s1.toNat s0)) else none
set_option maxRecDepth 4000 in
theorem t_X10_claim_102 {X : Nat → List sd_V → List sd_E → sd_A → Prop} {d : Nat} (hd : 3 ≤ d) (k35 : Int → sd_M → Option (Int × sd_M)) (k109 : sd_M → Option (Int × sd_M)) (hk35 : ∀ (v2 : Int) (M : sd_M) (Rr : Int × sd_M), k35 v2 M = some Rr → sd_B X d sd_q_X10_claim 35 [(0, .inr (.inr (some (331)))), (2, .inl (v2))] [] M (some (.inl Rr.1), sd_rp Rr.2, 0, 0)) (hk109 : ∀ (M : sd_M) (Rr : Int × sd_M), k109 M = some Rr → sd_B X d sd_q_X10_claim 109 [(0, .inr (.inr (some (331))))] [] M (some (.inl Rr.1), sd_rp Rr.2, 0, 0)) (v2 : Int) (s0 : Int) (s1 : Int) (M : sd_M) (Rr : Int × sd_M) (h : f_X10_claim_102 k35 k109 v2 s0 s1 M = some Rr) : sd_B X d sd_q_X10_claim 102 [(0, .inr (.inr (some (331)))), (2, .inl (v2))] [.inl (s0), .inl (s1), .inr (.inr (some (341)))] M (some (.inl Rr.1), sd_rp Rr.2, 0, 0) := by
  unfold f_X10_claim_102 at h
  obtain ⟨g1, h⟩ := sd_if h
  refine sd_b_si (sd_oa sd_o_331 (by decide) (off := 10) (List.mem_of_getElem? (i := 9) rfl)) g1 rfl ?_
  refine sd_b_go 2 (pc2 := 35) (lv2 := [(2, .inl (sd_w (v2 + 1))), (0, .inr (.inr (some (331))))]) (st2 := []) rfl ?_
  refine sd_b_wk [(0, .inr (.inr (some (331)))), (2, .inl (sd_w (v2 + 1)))] (List.forall_mem_cons.mpr ⟨rfl, (List.forall_mem_cons.mpr ⟨rfl, (fun _ h0 => absurd h0 List.not_mem_nil)⟩)⟩) ?_
  exact hk35 (sd_w (v2 + 1)) (sd_s M 341 s1.toNat s0) _ h
def f_X10_claim_35 (k109 : sd_M → Option (Int × sd_M)) : Nat → Int → sd_M → Option (Int × sd_M)
  | 0, _, _ => none
  | n + 1, v2, M => if (M 341 60) ≤ v2 then (k109 M) else (if 0 ≤ (sd_w (89 + v2)) ∧ (sd_w (89 + v2)) < 128 then (if 0 ≤ (sd_w (80 + (M 341 (sd_w (89 + v2)).toNat))) ∧ (sd_w (80 + (M 341 (sd_w (89 + v2)).toNat))) < 128 then (if 0 ≤ v2 ∧ v2 < 9 then (if 9999 ≤ (sd_w ((M 341 (sd_w (80 + (M 341 (sd_w (89 + v2)).toNat))).toNat) + (M 343 v2.toNat))) then (f_X10_claim_102 (f_X10_claim_35 k109 n) k109 v2 9999 (sd_w (80 + (M 341 (sd_w (89 + v2)).toNat))) M) else (if 0 ≤ (sd_w (80 + (M 341 (sd_w (89 + v2)).toNat))) ∧ (sd_w (80 + (M 341 (sd_w (89 + v2)).toNat))) < 128 then (if 0 ≤ v2 ∧ v2 < 9 then (f_X10_claim_102 (f_X10_claim_35 k109 n) k109 v2 (sd_w ((M 341 (sd_w (80 + (M 341 (sd_w (89 + v2)).toNat))).toNat) + (M 343 v2.toNat))) (sd_w (80 + (M 341 (sd_w (89 + v2)).toNat))) M) else none) else none)) else none) else none) else none)
set_option maxRecDepth 4000 in
theorem t_X10_claim_35 {X : Nat → List sd_V → List sd_E → sd_A → Prop} {d : Nat} (hd : 3 ≤ d) (k109 : sd_M → Option (Int × sd_M)) (hk109 : ∀ (M : sd_M) (Rr : Int × sd_M), k109 M = some Rr → sd_B X d sd_q_X10_claim 109 [(0, .inr (.inr (some (331))))] [] M (some (.inl Rr.1), sd_rp Rr.2, 0, 0)) : ∀ (n : Nat) (v2 : Int) (M : sd_M) (Rr : Int × sd_M), f_X10_claim_35 k109 n v2 M = some Rr → sd_B X d sd_q_X10_claim 35 [(0, .inr (.inr (some (331)))), (2, .inl (v2))] [] M (some (.inl Rr.1), sd_rp Rr.2, 0, 0) := by
  intro n
  induction n with
  | zero => intro v2 M Rr h; cases h
  | succ n ih =>
    intro v2 M Rr h
    rw [f_X10_claim_35] at h
    refine sd_b_go 2 (pc2 := 37) (lv2 := [(0, .inr (.inr (some (331)))), (2, .inl (v2))]) (st2 := [.inr (.inr (some (331))), .inl (v2)]) rfl ?_
    refine sd_b_gr (k := 20) sd_o_331 rfl rfl rfl ?_
    refine sd_b_go 1 (pc2 := 42) (lv2 := [(0, .inr (.inr (some (331)))), (2, .inl (v2))]) (st2 := [.inl (60), .inr (.inr (some (341))), .inl (v2)]) rfl ?_
    refine sd_b_ai (i := 60) (sd_oa sd_o_331 (by decide) (off := 10) (List.mem_of_getElem? (i := 9) rfl)) (by decide) rfl ?_
    by_cases c1 : (M 341 60) ≤ v2
    · rw [if_pos c1] at h
      refine sd_b_ct (c := .ge) (tgt := 109) rfl (decide_eq_true c1) (by decide) ?_
      refine sd_b_wk [(0, .inr (.inr (some (331))))] (List.forall_mem_cons.mpr ⟨rfl, (fun _ h0 => absurd h0 List.not_mem_nil)⟩) ?_
      exact hk109 M _ h
    · rw [if_neg c1] at h
      refine sd_b_cf (c := .ge) rfl (decide_eq_false c1) (by decide) ?_
      refine sd_b_go 2 (pc2 := 49) (lv2 := [(0, .inr (.inr (some (331)))), (2, .inl (v2))]) (st2 := [.inr (.inr (some (331))), .inl (80)]) rfl ?_
      refine sd_b_gr (k := 20) sd_o_331 rfl rfl rfl ?_
      refine sd_b_go 3 (pc2 := 56) (lv2 := [(0, .inr (.inr (some (331)))), (2, .inl (v2))]) (st2 := [.inl (sd_w (89 + v2)), .inr (.inr (some (341))), .inl (80)]) rfl ?_
      obtain ⟨g2, h⟩ := sd_if h
      refine sd_b_ai (sd_oa sd_o_331 (by decide) (off := 10) (List.mem_of_getElem? (i := 9) rfl)) g2 rfl ?_
      refine sd_b_go 3 (pc2 := 60) (lv2 := [(3, .inl (sd_w (80 + (M 341 (sd_w (89 + v2)).toNat)))), (0, .inr (.inr (some (331)))), (2, .inl (v2))]) (st2 := [.inr (.inr (some (331)))]) rfl ?_
      refine sd_b_gr (k := 20) sd_o_331 rfl rfl rfl ?_
      refine sd_b_go 2 (pc2 := 65) (lv2 := [(3, .inl (sd_w (80 + (M 341 (sd_w (89 + v2)).toNat)))), (0, .inr (.inr (some (331)))), (2, .inl (v2))]) (st2 := [.inr (.inr (some (331))), .inl (sd_w (80 + (M 341 (sd_w (89 + v2)).toNat))), .inr (.inr (some (341)))]) rfl ?_
      refine sd_b_gr (k := 20) sd_o_331 rfl rfl rfl ?_
      refine sd_b_go 1 (pc2 := 69) (lv2 := [(3, .inl (sd_w (80 + (M 341 (sd_w (89 + v2)).toNat)))), (0, .inr (.inr (some (331)))), (2, .inl (v2))]) (st2 := [.inl (sd_w (80 + (M 341 (sd_w (89 + v2)).toNat))), .inr (.inr (some (341))), .inl (sd_w (80 + (M 341 (sd_w (89 + v2)).toNat))), .inr (.inr (some (341)))]) rfl ?_
      obtain ⟨g3, h⟩ := sd_if h
      refine sd_b_ai (sd_oa sd_o_331 (by decide) (off := 10) (List.mem_of_getElem? (i := 9) rfl)) g3 rfl ?_
      refine sd_b_go 1 (pc2 := 71) (lv2 := [(3, .inl (sd_w (80 + (M 341 (sd_w (89 + v2)).toNat)))), (0, .inr (.inr (some (331)))), (2, .inl (v2))]) (st2 := [.inr (.inr (some (331))), .inl (M 341 (sd_w (80 + (M 341 (sd_w (89 + v2)).toNat))).toNat), .inl (sd_w (80 + (M 341 (sd_w (89 + v2)).toNat))), .inr (.inr (some (341)))]) rfl ?_
      refine sd_b_gr (k := 24) sd_o_331 rfl rfl rfl ?_
      refine sd_b_go 1 (pc2 := 75) (lv2 := [(3, .inl (sd_w (80 + (M 341 (sd_w (89 + v2)).toNat)))), (0, .inr (.inr (some (331)))), (2, .inl (v2))]) (st2 := [.inl (v2), .inr (.inr (some (343))), .inl (M 341 (sd_w (80 + (M 341 (sd_w (89 + v2)).toNat))).toNat), .inl (sd_w (80 + (M 341 (sd_w (89 + v2)).toNat))), .inr (.inr (some (341)))]) rfl ?_
      obtain ⟨g4, h⟩ := sd_if h
      refine sd_b_ai (sd_oa sd_o_331 (by decide) (off := 12) (List.mem_of_getElem? (i := 11) rfl)) g4 rfl ?_
      refine sd_b_go 2 (pc2 := 80) (lv2 := [(3, .inl (sd_w (80 + (M 341 (sd_w (89 + v2)).toNat)))), (0, .inr (.inr (some (331)))), (2, .inl (v2))]) (st2 := [.inl (9999), .inl (sd_w ((M 341 (sd_w (80 + (M 341 (sd_w (89 + v2)).toNat))).toNat) + (M 343 v2.toNat))), .inl (sd_w (80 + (M 341 (sd_w (89 + v2)).toNat))), .inr (.inr (some (341)))]) rfl ?_
      by_cases c5 : 9999 ≤ (sd_w ((M 341 (sd_w (80 + (M 341 (sd_w (89 + v2)).toNat))).toNat) + (M 343 v2.toNat)))
      · rw [if_pos c5] at h
        refine sd_b_ct (c := .ge) (tgt := 99) rfl (decide_eq_true c5) (by decide) ?_
        refine sd_b_go 1 (pc2 := 102) (lv2 := [(3, .inl (sd_w (80 + (M 341 (sd_w (89 + v2)).toNat)))), (0, .inr (.inr (some (331)))), (2, .inl (v2))]) (st2 := [.inl (9999), .inl (sd_w (80 + (M 341 (sd_w (89 + v2)).toNat))), .inr (.inr (some (341)))]) rfl ?_
        refine sd_b_wk [(0, .inr (.inr (some (331)))), (2, .inl (v2))] (List.forall_mem_cons.mpr ⟨rfl, (List.forall_mem_cons.mpr ⟨rfl, (fun _ h0 => absurd h0 List.not_mem_nil)⟩)⟩) ?_
        exact t_X10_claim_102 hd (f_X10_claim_35 k109 n) k109 ih hk109 v2 9999 (sd_w (80 + (M 341 (sd_w (89 + v2)).toNat))) M _ h
      · rw [if_neg c5] at h
        refine sd_b_cf (c := .ge) rfl (decide_eq_false c5) (by decide) ?_
        refine sd_b_go 1 (pc2 := 84) (lv2 := [(3, .inl (sd_w (80 + (M 341 (sd_w (89 + v2)).toNat)))), (0, .inr (.inr (some (331)))), (2, .inl (v2))]) (st2 := [.inr (.inr (some (331))), .inl (sd_w (80 + (M 341 (sd_w (89 + v2)).toNat))), .inr (.inr (some (341)))]) rfl ?_
        refine sd_b_gr (k := 20) sd_o_331 rfl rfl rfl ?_
        refine sd_b_go 1 (pc2 := 88) (lv2 := [(3, .inl (sd_w (80 + (M 341 (sd_w (89 + v2)).toNat)))), (0, .inr (.inr (some (331)))), (2, .inl (v2))]) (st2 := [.inl (sd_w (80 + (M 341 (sd_w (89 + v2)).toNat))), .inr (.inr (some (341))), .inl (sd_w (80 + (M 341 (sd_w (89 + v2)).toNat))), .inr (.inr (some (341)))]) rfl ?_
        obtain ⟨g6, h⟩ := sd_if h
        refine sd_b_ai (sd_oa sd_o_331 (by decide) (off := 10) (List.mem_of_getElem? (i := 9) rfl)) g6 rfl ?_
        refine sd_b_go 1 (pc2 := 90) (lv2 := [(3, .inl (sd_w (80 + (M 341 (sd_w (89 + v2)).toNat)))), (0, .inr (.inr (some (331)))), (2, .inl (v2))]) (st2 := [.inr (.inr (some (331))), .inl (M 341 (sd_w (80 + (M 341 (sd_w (89 + v2)).toNat))).toNat), .inl (sd_w (80 + (M 341 (sd_w (89 + v2)).toNat))), .inr (.inr (some (341)))]) rfl ?_
        refine sd_b_gr (k := 24) sd_o_331 rfl rfl rfl ?_
        refine sd_b_go 1 (pc2 := 94) (lv2 := [(3, .inl (sd_w (80 + (M 341 (sd_w (89 + v2)).toNat)))), (0, .inr (.inr (some (331)))), (2, .inl (v2))]) (st2 := [.inl (v2), .inr (.inr (some (343))), .inl (M 341 (sd_w (80 + (M 341 (sd_w (89 + v2)).toNat))).toNat), .inl (sd_w (80 + (M 341 (sd_w (89 + v2)).toNat))), .inr (.inr (some (341)))]) rfl ?_
        obtain ⟨g7, h⟩ := sd_if h
        refine sd_b_ai (sd_oa sd_o_331 (by decide) (off := 12) (List.mem_of_getElem? (i := 11) rfl)) g7 rfl ?_
        refine sd_b_go 2 (pc2 := 102) (lv2 := [(3, .inl (sd_w (80 + (M 341 (sd_w (89 + v2)).toNat)))), (0, .inr (.inr (some (331)))), (2, .inl (v2))]) (st2 := [.inl (sd_w ((M 341 (sd_w (80 + (M 341 (sd_w (89 + v2)).toNat))).toNat) + (M 343 v2.toNat))), .inl (sd_w (80 + (M 341 (sd_w (89 + v2)).toNat))), .inr (.inr (some (341)))]) rfl ?_
        refine sd_b_wk [(0, .inr (.inr (some (331)))), (2, .inl (v2))] (List.forall_mem_cons.mpr ⟨rfl, (List.forall_mem_cons.mpr ⟨rfl, (fun _ h0 => absurd h0 List.not_mem_nil)⟩)⟩) ?_
        exact t_X10_claim_102 hd (f_X10_claim_35 k109 n) k109 ih hk109 v2 (sd_w ((M 341 (sd_w (80 + (M 341 (sd_w (89 + v2)).toNat))).toNat) + (M 343 v2.toNat))) (sd_w (80 + (M 341 (sd_w (89 + v2)).toNat))) M _ h
def f_X10_claim_109 (M : sd_M) : Option (Int × sd_M) := if 0 ≤ (sd_w (80 + (M 341 89))) ∧ (sd_w (80 + (M 341 89))) < 128 then (some (M 341 (sd_w (80 + (M 341 89))).toNat, M)) else none
set_option maxRecDepth 4000 in
theorem t_X10_claim_109 {X : Nat → List sd_V → List sd_E → sd_A → Prop} {d : Nat} (hd : 3 ≤ d) (M : sd_M) (Rr : Int × sd_M) (h : f_X10_claim_109 M = some Rr) : sd_B X d sd_q_X10_claim 109 [(0, .inr (.inr (some (331))))] [] M (some (.inl Rr.1), sd_rp Rr.2, 0, 0) := by
  unfold f_X10_claim_109 at h
  refine sd_b_go 1 (pc2 := 110) (lv2 := [(0, .inr (.inr (some (331))))]) (st2 := [.inr (.inr (some (331)))]) rfl ?_
  refine sd_b_gr (k := 20) sd_o_331 rfl rfl rfl ?_
  refine sd_b_go 2 (pc2 := 116) (lv2 := [(0, .inr (.inr (some (331))))]) (st2 := [.inr (.inr (some (331))), .inl (80), .inr (.inr (some (341)))]) rfl ?_
  refine sd_b_gr (k := 20) sd_o_331 rfl rfl rfl ?_
  refine sd_b_go 1 (pc2 := 121) (lv2 := [(0, .inr (.inr (some (331))))]) (st2 := [.inl (89), .inr (.inr (some (341))), .inl (80), .inr (.inr (some (341)))]) rfl ?_
  refine sd_b_ai (i := 89) (sd_oa sd_o_331 (by decide) (off := 10) (List.mem_of_getElem? (i := 9) rfl)) (by decide) rfl ?_
  refine sd_b_go 1 (pc2 := 123) (lv2 := [(0, .inr (.inr (some (331))))]) (st2 := [.inl (sd_w (80 + (M 341 89))), .inr (.inr (some (341)))]) rfl ?_
  obtain ⟨g1, h⟩ := sd_if h
  refine sd_b_ai (sd_oa sd_o_331 (by decide) (off := 10) (List.mem_of_getElem? (i := 9) rfl)) g1 rfl ?_
  cases h
  exact sd_b_rt rfl rfl rfl
def f_X10_claim (p1 : Int) (M : sd_M) : Option (Int × sd_M) := if (M 341 60) = 0 then (some ((-1), M)) else ((f_X10_in p1 1 9999 M).bind fun r2 => if r2.1 = 0 then (some ((-1), r2.2)) else ((f_X10_keepsAct r2.2).bind fun r4 => (f_X10_partsBySigned p1 r4.2).bind fun r5 => f_X10_claim_35 (f_X10_claim_109) 4000 0 r5.2))
set_option maxRecDepth 4000 in
theorem t_X10_claim {X : Nat → List sd_V → List sd_E → sd_A → Prop} {d : Nat} (hd : 3 ≤ d) (p1 : Int) (M : sd_M) (Rr : Int × sd_M) (h : f_X10_claim p1 M = some Rr) : sd_B X d sd_q_X10_claim 0 [(0, .inr (.inr (some (331)))), (1, .inl (p1))] [] M (some (.inl Rr.1), sd_rp Rr.2, 0, 0) := by
  unfold f_X10_claim at h
  refine sd_b_go 1 (pc2 := 1) (lv2 := [(0, .inr (.inr (some (331)))), (1, .inl (p1))]) (st2 := [.inr (.inr (some (331)))]) rfl ?_
  refine sd_b_gr (k := 20) sd_o_331 rfl rfl rfl ?_
  refine sd_b_go 1 (pc2 := 6) (lv2 := [(0, .inr (.inr (some (331)))), (1, .inl (p1))]) (st2 := [.inl (60), .inr (.inr (some (341)))]) rfl ?_
  refine sd_b_ai (i := 60) (sd_oa sd_o_331 (by decide) (off := 10) (List.mem_of_getElem? (i := 9) rfl)) (by decide) rfl ?_
  by_cases c1 : (M 341 60) = 0
  · rw [if_pos c1] at h
    refine sd_b_zt (c := .eq) (tgt := 22) rfl (decide_eq_true c1) (by decide) ?_
    refine sd_b_go 1 (pc2 := 23) (lv2 := [(0, .inr (.inr (some (331)))), (1, .inl (p1))]) (st2 := [.inl ((-1))]) rfl ?_
    cases h
    exact sd_b_rt rfl rfl rfl
  · rw [if_neg c1] at h
    refine sd_b_zf (c := .eq) rfl (decide_eq_false c1) (by decide) ?_
    refine sd_b_go 4 (pc2 := 16) (lv2 := [(0, .inr (.inr (some (331)))), (1, .inl (p1))]) (st2 := [.inr (.inl (9999)), .inr (.inl (1)), .inr (.inl (p1))]) rfl ?_
    obtain ⟨r2, e2, h⟩ := sd_bnd h
    refine sd_b_call [.inr (.inl (p1)), .inr (.inl (1)), .inr (.inl (9999))] [] rfl rfl sd_i_X10_in rfl rfl (Nat.le_of_ble_eq_true rfl) rfl (m_X10_in (by omega) e2) ?_
    by_cases c3 : r2.1 = 0
    · rw [if_pos c3] at h
      refine sd_b_zf (c := .ne) rfl (decide_eq_false (not_not_intro c3)) (by decide) ?_
      refine sd_b_go 1 (pc2 := 23) (lv2 := [(0, .inr (.inr (some (331)))), (1, .inl (p1))]) (st2 := [.inl ((-1))]) rfl ?_
      cases h
      exact sd_b_rt rfl rfl rfl
    · rw [if_neg c3] at h
      refine sd_b_zt (c := .ne) (tgt := 24) rfl (decide_eq_true c3) (by decide) ?_
      refine sd_b_go 1 (pc2 := 25) (lv2 := [(0, .inr (.inr (some (331)))), (1, .inl (p1))]) (st2 := [.inr (.inr (some (331)))]) rfl ?_
      obtain ⟨r4, e4, h⟩ := sd_bnd h
      refine sd_b_call [.inr (.inr (some (331)))] [] rfl rfl sd_i_X10_keepsAct rfl rfl (Nat.le_of_ble_eq_true rfl) (sd_rc_v sd_o_331) (m_X10_keepsAct (by omega) e4) ?_
      refine sd_b_go 2 (pc2 := 30) (lv2 := [(0, .inr (.inr (some (331)))), (1, .inl (p1))]) (st2 := [.inl (p1), .inr (.inr (some (331)))]) rfl ?_
      obtain ⟨r5, e5, h⟩ := sd_bnd h
      refine sd_b_call [.inr (.inr (some (331))), .inl (p1)] [] rfl rfl sd_i_X10_partsBySigned rfl rfl (Nat.le_of_ble_eq_true rfl) (sd_rc_v sd_o_331) (m_X10_partsBySigned (by omega) e5) ?_
      refine sd_b_go 2 (pc2 := 35) (lv2 := [(2, .inl (0)), (0, .inr (.inr (some (331)))), (1, .inl (p1))]) (st2 := []) rfl ?_
      refine sd_b_wk [(0, .inr (.inr (some (331)))), (2, .inl (0))] (List.forall_mem_cons.mpr ⟨rfl, (List.forall_mem_cons.mpr ⟨rfl, (fun _ h0 => absurd h0 List.not_mem_nil)⟩)⟩) ?_
      exact t_X10_claim_35 hd (f_X10_claim_109) (t_X10_claim_109 hd) 4000 0 r5.2 _ h
theorem m_X10_claim {X : Nat → List sd_V → List sd_E → sd_A → Prop} {d : Nat} (hd : 4 ≤ d) {p1 : Int} {M : sd_M} {Rr : Int × sd_M} (h : f_X10_claim p1 M = some Rr) : sd_Cal X d 210 [.inr (.inr (some (331))), .inl (p1)] (sd_rp M) (some (.inl Rr.1), sd_rp Rr.2, 0, 0) := by
  obtain ⟨d, rfl⟩ : ∃ d2, d = d2 + 1 := ⟨d - 1, by omega⟩
  exact sd_cal_of sd_i_X10_claim (Nat.le_of_ble_eq_true rfl) (t_X10_claim (by omega) p1 M Rr h)
-- X10_keeps
def sd_q_X10_keeps : sd_MI := (yX10_keeps, cX10_keeps, 2, none, 10, 0, sd_t_X10_keeps)
set_option maxRecDepth 4000 in
theorem sd_i_X10_keeps : sd_mL[211]? = some sd_q_X10_keeps := rfl
def f_X10_keeps_2 : Nat → Int → sd_M → Option (Int × sd_M)
  | 0, _, _ => none
  | n + 1, v1, M => if 49 ≤ v1 then (some (0, M)) else (if 0 ≤ (sd_w (58 + v1)) ∧ (sd_w (58 + v1)) < 128 then (if 0 ≤ v1 ∧ v1 < 49 then (f_X10_keeps_2 n (sd_w (v1 + 1)) (sd_s M 346 v1.toNat (M 341 (sd_w (58 + v1)).toNat))) else none) else none)
set_option maxRecDepth 4000 in
theorem t_X10_keeps_2 {X : Nat → List sd_V → List sd_E → sd_A → Prop} {d : Nat} (hd : 0 ≤ d) : ∀ (n : Nat) (v1 : Int) (M : sd_M) (Rr : Int × sd_M), f_X10_keeps_2 n v1 M = some Rr → sd_B X d sd_q_X10_keeps 2 [(0, .inr (.inr (some (331)))), (1, .inl (v1))] [] M (none, sd_rp Rr.2, 0, 0) := by
  intro n
  induction n with
  | zero => intro v1 M Rr h; cases h
  | succ n ih =>
    intro v1 M Rr h
    rw [f_X10_keeps_2] at h
    refine sd_b_go 2 (pc2 := 5) (lv2 := [(0, .inr (.inr (some (331)))), (1, .inl (v1))]) (st2 := [.inl (49), .inl (v1)]) rfl ?_
    by_cases c1 : 49 ≤ v1
    · rw [if_pos c1] at h
      refine sd_b_ct (c := .ge) (tgt := 29) rfl (decide_eq_true c1) (by decide) ?_
      cases h
      exact sd_b_rt rfl rfl rfl
    · rw [if_neg c1] at h
      refine sd_b_cf (c := .ge) rfl (decide_eq_false c1) (by decide) ?_
      refine sd_b_go 1 (pc2 := 9) (lv2 := [(0, .inr (.inr (some (331)))), (1, .inl (v1))]) (st2 := [.inr (.inr (some (331)))]) rfl ?_
      refine sd_b_gr (k := 28) sd_o_331 rfl rfl rfl ?_
      refine sd_b_go 2 (pc2 := 14) (lv2 := [(0, .inr (.inr (some (331)))), (1, .inl (v1))]) (st2 := [.inr (.inr (some (331))), .inl (v1), .inr (.inr (some (346)))]) rfl ?_
      refine sd_b_gr (k := 20) sd_o_331 rfl rfl rfl ?_
      refine sd_b_go 3 (pc2 := 21) (lv2 := [(0, .inr (.inr (some (331)))), (1, .inl (v1))]) (st2 := [.inl (sd_w (58 + v1)), .inr (.inr (some (341))), .inl (v1), .inr (.inr (some (346)))]) rfl ?_
      obtain ⟨g2, h⟩ := sd_if h
      refine sd_b_ai (sd_oa sd_o_331 (by decide) (off := 10) (List.mem_of_getElem? (i := 9) rfl)) g2 rfl ?_
      obtain ⟨g3, h⟩ := sd_if h
      refine sd_b_si (sd_oa sd_o_331 (by decide) (off := 15) (List.mem_of_getElem? (i := 14) rfl)) g3 rfl ?_
      refine sd_b_go 2 (pc2 := 2) (lv2 := [(1, .inl (sd_w (v1 + 1))), (0, .inr (.inr (some (331))))]) (st2 := []) rfl ?_
      refine sd_b_wk [(0, .inr (.inr (some (331)))), (1, .inl (sd_w (v1 + 1)))] (List.forall_mem_cons.mpr ⟨rfl, (List.forall_mem_cons.mpr ⟨rfl, (fun _ h0 => absurd h0 List.not_mem_nil)⟩)⟩) ?_
      exact ih (sd_w (v1 + 1)) (sd_s M 346 v1.toNat (M 341 (sd_w (58 + v1)).toNat)) _ h
def f_X10_keeps (M : sd_M) : Option (Int × sd_M) := f_X10_keeps_2 4000 0 M
set_option maxRecDepth 4000 in
theorem t_X10_keeps {X : Nat → List sd_V → List sd_E → sd_A → Prop} {d : Nat} (hd : 0 ≤ d) (M : sd_M) (Rr : Int × sd_M) (h : f_X10_keeps M = some Rr) : sd_B X d sd_q_X10_keeps 0 [(0, .inr (.inr (some (331))))] [] M (none, sd_rp Rr.2, 0, 0) := by
  unfold f_X10_keeps at h
  refine sd_b_go 2 (pc2 := 2) (lv2 := [(1, .inl (0)), (0, .inr (.inr (some (331))))]) (st2 := []) rfl ?_
  refine sd_b_wk [(0, .inr (.inr (some (331)))), (1, .inl (0))] (List.forall_mem_cons.mpr ⟨rfl, (List.forall_mem_cons.mpr ⟨rfl, (fun _ h0 => absurd h0 List.not_mem_nil)⟩)⟩) ?_
  exact t_X10_keeps_2 hd 4000 0 M _ h
theorem m_X10_keeps {X : Nat → List sd_V → List sd_E → sd_A → Prop} {d : Nat} (hd : 1 ≤ d) {M : sd_M} {Rr : Int × sd_M} (h : f_X10_keeps M = some Rr) : sd_Cal X d 211 [.inr (.inr (some (331)))] (sd_rp M) (none, sd_rp Rr.2, 0, 0) := by
  obtain ⟨d, rfl⟩ : ∃ d2, d = d2 + 1 := ⟨d - 1, by omega⟩
  exact sd_cal_of sd_i_X10_keeps (Nat.le_of_ble_eq_true rfl) (t_X10_keeps (by omega) M Rr h)
-- X10_laysBack
def sd_q_X10_laysBack : sd_MI := (yX10_laysBack, cX10_laysBack, 2, none, 10, 0, sd_t_X10_laysBack)
set_option maxRecDepth 4000 in
theorem sd_i_X10_laysBack : sd_mL[212]? = some sd_q_X10_laysBack := rfl
def f_X10_laysBack_2 : Nat → Int → sd_M → Option (Int × sd_M)
  | 0, _, _ => none
  | n + 1, v1, M => if 49 ≤ v1 then (some (0, M)) else (if 0 ≤ v1 ∧ v1 < 49 then (if 0 ≤ (sd_w (58 + v1)) ∧ (sd_w (58 + v1)) < 128 then (f_X10_laysBack_2 n (sd_w (v1 + 1)) (sd_s M 341 (sd_w (58 + v1)).toNat (M 346 v1.toNat))) else none) else none)
set_option maxRecDepth 4000 in
theorem t_X10_laysBack_2 {X : Nat → List sd_V → List sd_E → sd_A → Prop} {d : Nat} (hd : 0 ≤ d) : ∀ (n : Nat) (v1 : Int) (M : sd_M) (Rr : Int × sd_M), f_X10_laysBack_2 n v1 M = some Rr → sd_B X d sd_q_X10_laysBack 2 [(0, .inr (.inr (some (331)))), (1, .inl (v1))] [] M (none, sd_rp Rr.2, 0, 0) := by
  intro n
  induction n with
  | zero => intro v1 M Rr h; cases h
  | succ n ih =>
    intro v1 M Rr h
    rw [f_X10_laysBack_2] at h
    refine sd_b_go 2 (pc2 := 5) (lv2 := [(0, .inr (.inr (some (331)))), (1, .inl (v1))]) (st2 := [.inl (49), .inl (v1)]) rfl ?_
    by_cases c1 : 49 ≤ v1
    · rw [if_pos c1] at h
      refine sd_b_ct (c := .ge) (tgt := 29) rfl (decide_eq_true c1) (by decide) ?_
      cases h
      exact sd_b_rt rfl rfl rfl
    · rw [if_neg c1] at h
      refine sd_b_cf (c := .ge) rfl (decide_eq_false c1) (by decide) ?_
      refine sd_b_go 1 (pc2 := 9) (lv2 := [(0, .inr (.inr (some (331)))), (1, .inl (v1))]) (st2 := [.inr (.inr (some (331)))]) rfl ?_
      refine sd_b_gr (k := 20) sd_o_331 rfl rfl rfl ?_
      refine sd_b_go 4 (pc2 := 17) (lv2 := [(0, .inr (.inr (some (331)))), (1, .inl (v1))]) (st2 := [.inr (.inr (some (331))), .inl (sd_w (58 + v1)), .inr (.inr (some (341)))]) rfl ?_
      refine sd_b_gr (k := 28) sd_o_331 rfl rfl rfl ?_
      refine sd_b_go 1 (pc2 := 21) (lv2 := [(0, .inr (.inr (some (331)))), (1, .inl (v1))]) (st2 := [.inl (v1), .inr (.inr (some (346))), .inl (sd_w (58 + v1)), .inr (.inr (some (341)))]) rfl ?_
      obtain ⟨g2, h⟩ := sd_if h
      refine sd_b_ai (sd_oa sd_o_331 (by decide) (off := 15) (List.mem_of_getElem? (i := 14) rfl)) g2 rfl ?_
      obtain ⟨g3, h⟩ := sd_if h
      refine sd_b_si (sd_oa sd_o_331 (by decide) (off := 10) (List.mem_of_getElem? (i := 9) rfl)) g3 rfl ?_
      refine sd_b_go 2 (pc2 := 2) (lv2 := [(1, .inl (sd_w (v1 + 1))), (0, .inr (.inr (some (331))))]) (st2 := []) rfl ?_
      refine sd_b_wk [(0, .inr (.inr (some (331)))), (1, .inl (sd_w (v1 + 1)))] (List.forall_mem_cons.mpr ⟨rfl, (List.forall_mem_cons.mpr ⟨rfl, (fun _ h0 => absurd h0 List.not_mem_nil)⟩)⟩) ?_
      exact ih (sd_w (v1 + 1)) (sd_s M 341 (sd_w (58 + v1)).toNat (M 346 v1.toNat)) _ h
def f_X10_laysBack (M : sd_M) : Option (Int × sd_M) := f_X10_laysBack_2 4000 0 M
set_option maxRecDepth 4000 in
theorem t_X10_laysBack {X : Nat → List sd_V → List sd_E → sd_A → Prop} {d : Nat} (hd : 0 ≤ d) (M : sd_M) (Rr : Int × sd_M) (h : f_X10_laysBack M = some Rr) : sd_B X d sd_q_X10_laysBack 0 [(0, .inr (.inr (some (331))))] [] M (none, sd_rp Rr.2, 0, 0) := by
  unfold f_X10_laysBack at h
  refine sd_b_go 2 (pc2 := 2) (lv2 := [(1, .inl (0)), (0, .inr (.inr (some (331))))]) (st2 := []) rfl ?_
  refine sd_b_wk [(0, .inr (.inr (some (331)))), (1, .inl (0))] (List.forall_mem_cons.mpr ⟨rfl, (List.forall_mem_cons.mpr ⟨rfl, (fun _ h0 => absurd h0 List.not_mem_nil)⟩)⟩) ?_
  exact t_X10_laysBack_2 hd 4000 0 M _ h
theorem m_X10_laysBack {X : Nat → List sd_V → List sd_E → sd_A → Prop} {d : Nat} (hd : 1 ≤ d) {M : sd_M} {Rr : Int × sd_M} (h : f_X10_laysBack M = some Rr) : sd_Cal X d 212 [.inr (.inr (some (331)))] (sd_rp M) (none, sd_rp Rr.2, 0, 0) := by
  obtain ⟨d, rfl⟩ : ∃ d2, d = d2 + 1 := ⟨d - 1, by omega⟩
  exact sd_cal_of sd_i_X10_laysBack (Nat.le_of_ble_eq_true rfl) (t_X10_laysBack (by omega) M Rr h)
-- X10_wouldBe
def sd_q_X10_wouldBe : sd_MI := (yX10_wouldBe, cX10_wouldBe, 4, (some .int), 10, 2, sd_t_X10_wouldBe)
set_option maxRecDepth 4000 in
theorem sd_i_X10_wouldBe : sd_mL[213]? = some sd_q_X10_wouldBe := rfl
def f_X10_wouldBe (p1 : Int) (p2 : Int) (M : sd_M) : Option (Int × sd_M) := if 0 ≤ (sd_w (62 + p1)) ∧ (sd_w (62 + p1)) < 128 then ((f_X10_settlesAll (sd_s M 341 (sd_w (62 + p1)).toNat p2)).bind fun r2 => (f_X10_signedOf p1 r2.2).bind fun r3 => (f_X10_laysBack r3.2).bind fun r4 => some (r3.1, r4.2)) else none
set_option maxRecDepth 4000 in
theorem t_X10_wouldBe {X : Nat → List sd_V → List sd_E → sd_A → Prop} {d : Nat} (hd : 6 ≤ d) (p1 : Int) (p2 : Int) (M : sd_M) (Rr : Int × sd_M) (h : f_X10_wouldBe p1 p2 M = some Rr) : sd_B X d sd_q_X10_wouldBe 0 [(0, .inr (.inr (some (331)))), (1, .inl (p1)), (2, .inl (p2))] [] M (some (.inl Rr.1), sd_rp Rr.2, 0, 0) := by
  unfold f_X10_wouldBe at h
  refine sd_b_go 1 (pc2 := 1) (lv2 := [(0, .inr (.inr (some (331)))), (1, .inl (p1)), (2, .inl (p2))]) (st2 := [.inr (.inr (some (331)))]) rfl ?_
  refine sd_b_gr (k := 20) sd_o_331 rfl rfl rfl ?_
  refine sd_b_go 4 (pc2 := 9) (lv2 := [(0, .inr (.inr (some (331)))), (1, .inl (p1)), (2, .inl (p2))]) (st2 := [.inl (p2), .inl (sd_w (62 + p1)), .inr (.inr (some (341)))]) rfl ?_
  obtain ⟨g1, h⟩ := sd_if h
  refine sd_b_si (sd_oa sd_o_331 (by decide) (off := 10) (List.mem_of_getElem? (i := 9) rfl)) g1 rfl ?_
  refine sd_b_go 1 (pc2 := 11) (lv2 := [(0, .inr (.inr (some (331)))), (1, .inl (p1)), (2, .inl (p2))]) (st2 := [.inr (.inr (some (331)))]) rfl ?_
  obtain ⟨r2, e2, h⟩ := sd_bnd h
  refine sd_b_call [.inr (.inr (some (331)))] [] rfl rfl sd_i_X10_settlesAll rfl rfl (Nat.le_of_ble_eq_true rfl) (sd_rc_v sd_o_331) (m_X10_settlesAll (by omega) e2) ?_
  refine sd_b_go 2 (pc2 := 16) (lv2 := [(0, .inr (.inr (some (331)))), (1, .inl (p1)), (2, .inl (p2))]) (st2 := [.inl (p1), .inr (.inr (some (331)))]) rfl ?_
  obtain ⟨r3, e3, h⟩ := sd_bnd h
  refine sd_b_call [.inr (.inr (some (331))), .inl (p1)] [] rfl rfl sd_i_X10_signedOf rfl rfl (Nat.le_of_ble_eq_true rfl) (sd_rc_v sd_o_331) (m_X10_signedOf (by omega) e3) ?_
  refine sd_b_go 2 (pc2 := 21) (lv2 := [(3, .inl (r3.1)), (0, .inr (.inr (some (331)))), (1, .inl (p1)), (2, .inl (p2))]) (st2 := [.inr (.inr (some (331)))]) rfl ?_
  obtain ⟨r4, e4, h⟩ := sd_bnd h
  refine sd_b_call [.inr (.inr (some (331)))] [] rfl rfl sd_i_X10_laysBack rfl rfl (Nat.le_of_ble_eq_true rfl) (sd_rc_v sd_o_331) (m_X10_laysBack (by omega) e4) ?_
  refine sd_b_go 1 (pc2 := 25) (lv2 := [(3, .inl (r3.1)), (0, .inr (.inr (some (331)))), (1, .inl (p1)), (2, .inl (p2))]) (st2 := [.inl (r3.1)]) rfl ?_
  cases h
  exact sd_b_rt rfl rfl rfl
theorem m_X10_wouldBe {X : Nat → List sd_V → List sd_E → sd_A → Prop} {d : Nat} (hd : 7 ≤ d) {p1 : Int} {p2 : Int} {M : sd_M} {Rr : Int × sd_M} (h : f_X10_wouldBe p1 p2 M = some Rr) : sd_Cal X d 213 [.inr (.inr (some (331))), .inl (p1), .inl (p2)] (sd_rp M) (some (.inl Rr.1), sd_rp Rr.2, 0, 0) := by
  obtain ⟨d, rfl⟩ : ∃ d2, d = d2 + 1 := ⟨d - 1, by omega⟩
  exact sd_cal_of sd_i_X10_wouldBe (Nat.le_of_ble_eq_true rfl) (t_X10_wouldBe (by omega) p1 p2 M Rr h)
-- X10_would
def sd_q_X10_would : sd_MI := (yX10_would, cX10_would, 3, (some .int), 10, 2, sd_t_X10_would)
set_option maxRecDepth 4000 in
theorem sd_i_X10_would : sd_mL[214]? = some sd_q_X10_would := rfl
def f_X10_would (p1 : Int) (p2 : Int) (M : sd_M) : Option (Int × sd_M) := (f_X10_isLine p1 M).bind fun r1 => if r1.1 = 0 then (some ((-1), r1.2)) else ((f_X10_in p2 1 999 r1.2).bind fun r3 => if r3.1 = 0 then (some ((-1), r3.2)) else ((f_X10_keeps r3.2).bind fun r5 => (f_X10_wouldBe p1 p2 r5.2).bind fun r6 => some (r6.1, r6.2)))
set_option maxRecDepth 4000 in
theorem t_X10_would {X : Nat → List sd_V → List sd_E → sd_A → Prop} {d : Nat} (hd : 7 ≤ d) (p1 : Int) (p2 : Int) (M : sd_M) (Rr : Int × sd_M) (h : f_X10_would p1 p2 M = some Rr) : sd_B X d sd_q_X10_would 0 [(0, .inr (.inr (some (331)))), (1, .inl (p1)), (2, .inl (p2))] [] M (some (.inl Rr.1), sd_rp Rr.2, 0, 0) := by
  unfold f_X10_would at h
  refine sd_b_go 2 (pc2 := 2) (lv2 := [(0, .inr (.inr (some (331)))), (1, .inl (p1)), (2, .inl (p2))]) (st2 := [.inl (p1), .inr (.inr (some (331)))]) rfl ?_
  obtain ⟨r1, e1, h⟩ := sd_bnd h
  refine sd_b_call [.inr (.inr (some (331))), .inl (p1)] [] rfl rfl sd_i_X10_isLine rfl rfl (Nat.le_of_ble_eq_true rfl) (sd_rc_v sd_o_331) (m_X10_isLine (by omega) e1) ?_
  by_cases c2 : r1.1 = 0
  · rw [if_pos c2] at h
    refine sd_b_zt (c := .eq) (tgt := 20) rfl (decide_eq_true c2) (by decide) ?_
    refine sd_b_go 1 (pc2 := 21) (lv2 := [(0, .inr (.inr (some (331)))), (1, .inl (p1)), (2, .inl (p2))]) (st2 := [.inl ((-1))]) rfl ?_
    cases h
    exact sd_b_rt rfl rfl rfl
  · rw [if_neg c2] at h
    refine sd_b_zf (c := .eq) rfl (decide_eq_false c2) (by decide) ?_
    refine sd_b_go 4 (pc2 := 14) (lv2 := [(0, .inr (.inr (some (331)))), (1, .inl (p1)), (2, .inl (p2))]) (st2 := [.inr (.inl (999)), .inr (.inl (1)), .inr (.inl (p2))]) rfl ?_
    obtain ⟨r3, e3, h⟩ := sd_bnd h
    refine sd_b_call [.inr (.inl (p2)), .inr (.inl (1)), .inr (.inl (999))] [] rfl rfl sd_i_X10_in rfl rfl (Nat.le_of_ble_eq_true rfl) rfl (m_X10_in (by omega) e3) ?_
    by_cases c4 : r3.1 = 0
    · rw [if_pos c4] at h
      refine sd_b_zf (c := .ne) rfl (decide_eq_false (not_not_intro c4)) (by decide) ?_
      refine sd_b_go 1 (pc2 := 21) (lv2 := [(0, .inr (.inr (some (331)))), (1, .inl (p1)), (2, .inl (p2))]) (st2 := [.inl ((-1))]) rfl ?_
      cases h
      exact sd_b_rt rfl rfl rfl
    · rw [if_neg c4] at h
      refine sd_b_zt (c := .ne) (tgt := 22) rfl (decide_eq_true c4) (by decide) ?_
      refine sd_b_go 1 (pc2 := 23) (lv2 := [(0, .inr (.inr (some (331)))), (1, .inl (p1)), (2, .inl (p2))]) (st2 := [.inr (.inr (some (331)))]) rfl ?_
      obtain ⟨r5, e5, h⟩ := sd_bnd h
      refine sd_b_call [.inr (.inr (some (331)))] [] rfl rfl sd_i_X10_keeps rfl rfl (Nat.le_of_ble_eq_true rfl) (sd_rc_v sd_o_331) (m_X10_keeps (by omega) e5) ?_
      refine sd_b_go 3 (pc2 := 29) (lv2 := [(0, .inr (.inr (some (331)))), (1, .inl (p1)), (2, .inl (p2))]) (st2 := [.inl (p2), .inl (p1), .inr (.inr (some (331)))]) rfl ?_
      obtain ⟨r6, e6, h⟩ := sd_bnd h
      refine sd_b_call [.inr (.inr (some (331))), .inl (p1), .inl (p2)] [] rfl rfl sd_i_X10_wouldBe rfl rfl (Nat.le_of_ble_eq_true rfl) (sd_rc_v sd_o_331) (m_X10_wouldBe (by omega) e6) ?_
      cases h
      exact sd_b_rt rfl rfl rfl
theorem m_X10_would {X : Nat → List sd_V → List sd_E → sd_A → Prop} {d : Nat} (hd : 8 ≤ d) {p1 : Int} {p2 : Int} {M : sd_M} {Rr : Int × sd_M} (h : f_X10_would p1 p2 M = some Rr) : sd_Cal X d 214 [.inr (.inr (some (331))), .inl (p1), .inl (p2)] (sd_rp M) (some (.inl Rr.1), sd_rp Rr.2, 0, 0) := by
  obtain ⟨d, rfl⟩ : ∃ d2, d = d2 + 1 := ⟨d - 1, by omega⟩
  exact sd_cal_of sd_i_X10_would (Nat.le_of_ble_eq_true rfl) (t_X10_would (by omega) p1 p2 M Rr h)
-- X10_least
def sd_q_X10_least : sd_MI := (yX10_least, cX10_least, 4, (some .int), 10, 2, sd_t_X10_least)
set_option maxRecDepth 4000 in
theorem sd_i_X10_least : sd_mL[215]? = some sd_q_X10_least := rfl
def f_X10_least_28 : Nat → Int → Int → Int → sd_M → Option (Int × sd_M)
  | 0, _, _, _, _ => none
  | n + 1, v1, v2, v3, M => if 999 < v3 then (some ((-2), M)) else ((f_X10_wouldBe v1 v3 M).bind fun r2 => if r2.1 < v2 then (f_X10_least_28 n v1 v2 (sd_w (v3 + 1)) r2.2) else (some (v3, r2.2)))
set_option maxRecDepth 4000 in
theorem t_X10_least_28 {X : Nat → List sd_V → List sd_E → sd_A → Prop} {d : Nat} (hd : 7 ≤ d) : ∀ (n : Nat) (v1 : Int) (v2 : Int) (v3 : Int) (M : sd_M) (Rr : Int × sd_M), f_X10_least_28 n v1 v2 v3 M = some Rr → sd_B X d sd_q_X10_least 28 [(0, .inr (.inr (some (331)))), (1, .inl (v1)), (2, .inl (v2)), (3, .inl (v3))] [] M (some (.inl Rr.1), sd_rp Rr.2, 0, 0) := by
  intro n
  induction n with
  | zero => intro v1 v2 v3 M Rr h; cases h
  | succ n ih =>
    intro v1 v2 v3 M Rr h
    rw [f_X10_least_28] at h
    refine sd_b_go 2 (pc2 := 32) (lv2 := [(0, .inr (.inr (some (331)))), (1, .inl (v1)), (2, .inl (v2)), (3, .inl (v3))]) (st2 := [.inl (999), .inl (v3)]) rfl ?_
    by_cases c1 : 999 < v3
    · rw [if_pos c1] at h
      refine sd_b_ct (c := .gt) (tgt := 53) rfl (decide_eq_true c1) (by decide) ?_
      refine sd_b_go 1 (pc2 := 55) (lv2 := [(0, .inr (.inr (some (331)))), (1, .inl (v1)), (2, .inl (v2)), (3, .inl (v3))]) (st2 := [.inl ((-2))]) rfl ?_
      cases h
      exact sd_b_rt rfl rfl rfl
    · rw [if_neg c1] at h
      refine sd_b_cf (c := .gt) rfl (decide_eq_false c1) (by decide) ?_
      refine sd_b_go 3 (pc2 := 38) (lv2 := [(0, .inr (.inr (some (331)))), (1, .inl (v1)), (2, .inl (v2)), (3, .inl (v3))]) (st2 := [.inl (v3), .inl (v1), .inr (.inr (some (331)))]) rfl ?_
      obtain ⟨r2, e2, h⟩ := sd_bnd h
      refine sd_b_call [.inr (.inr (some (331))), .inl (v1), .inl (v3)] [] rfl rfl sd_i_X10_wouldBe rfl rfl (Nat.le_of_ble_eq_true rfl) (sd_rc_v sd_o_331) (m_X10_wouldBe (by omega) e2) ?_
      refine sd_b_go 1 (pc2 := 42) (lv2 := [(0, .inr (.inr (some (331)))), (1, .inl (v1)), (2, .inl (v2)), (3, .inl (v3))]) (st2 := [.inl (v2), .inl (r2.1)]) rfl ?_
      by_cases c3 : r2.1 < v2
      · rw [if_pos c3] at h
        refine sd_b_ct (c := .lt) (tgt := 47) rfl (decide_eq_true c3) (by decide) ?_
        refine sd_b_go 2 (pc2 := 28) (lv2 := [(3, .inl (sd_w (v3 + 1))), (0, .inr (.inr (some (331)))), (1, .inl (v1)), (2, .inl (v2))]) (st2 := []) rfl ?_
        refine sd_b_wk [(0, .inr (.inr (some (331)))), (1, .inl (v1)), (2, .inl (v2)), (3, .inl (sd_w (v3 + 1)))] (List.forall_mem_cons.mpr ⟨rfl, (List.forall_mem_cons.mpr ⟨rfl, (List.forall_mem_cons.mpr ⟨rfl, (List.forall_mem_cons.mpr ⟨rfl, (fun _ h0 => absurd h0 List.not_mem_nil)⟩)⟩)⟩)⟩) ?_
        exact ih v1 v2 (sd_w (v3 + 1)) r2.2 _ h
      · rw [if_neg c3] at h
        refine sd_b_cf (c := .lt) rfl (decide_eq_false c3) (by decide) ?_
        refine sd_b_go 1 (pc2 := 46) (lv2 := [(0, .inr (.inr (some (331)))), (1, .inl (v1)), (2, .inl (v2)), (3, .inl (v3))]) (st2 := [.inl (v3)]) rfl ?_
        cases h
        exact sd_b_rt rfl rfl rfl
def f_X10_least (p1 : Int) (p2 : Int) (M : sd_M) : Option (Int × sd_M) := (f_X10_isLine p1 M).bind fun r1 => if r1.1 = 0 then (some ((-1), r1.2)) else ((f_X10_in p2 1 999 r1.2).bind fun r3 => if r3.1 = 0 then (some ((-1), r3.2)) else ((f_X10_keeps r3.2).bind fun r5 => f_X10_least_28 4000 p1 p2 1 r5.2))
set_option maxRecDepth 4000 in
theorem t_X10_least {X : Nat → List sd_V → List sd_E → sd_A → Prop} {d : Nat} (hd : 7 ≤ d) (p1 : Int) (p2 : Int) (M : sd_M) (Rr : Int × sd_M) (h : f_X10_least p1 p2 M = some Rr) : sd_B X d sd_q_X10_least 0 [(0, .inr (.inr (some (331)))), (1, .inl (p1)), (2, .inl (p2))] [] M (some (.inl Rr.1), sd_rp Rr.2, 0, 0) := by
  unfold f_X10_least at h
  refine sd_b_go 2 (pc2 := 2) (lv2 := [(0, .inr (.inr (some (331)))), (1, .inl (p1)), (2, .inl (p2))]) (st2 := [.inl (p1), .inr (.inr (some (331)))]) rfl ?_
  obtain ⟨r1, e1, h⟩ := sd_bnd h
  refine sd_b_call [.inr (.inr (some (331))), .inl (p1)] [] rfl rfl sd_i_X10_isLine rfl rfl (Nat.le_of_ble_eq_true rfl) (sd_rc_v sd_o_331) (m_X10_isLine (by omega) e1) ?_
  by_cases c2 : r1.1 = 0
  · rw [if_pos c2] at h
    refine sd_b_zt (c := .eq) (tgt := 20) rfl (decide_eq_true c2) (by decide) ?_
    refine sd_b_go 1 (pc2 := 21) (lv2 := [(0, .inr (.inr (some (331)))), (1, .inl (p1)), (2, .inl (p2))]) (st2 := [.inl ((-1))]) rfl ?_
    cases h
    exact sd_b_rt rfl rfl rfl
  · rw [if_neg c2] at h
    refine sd_b_zf (c := .eq) rfl (decide_eq_false c2) (by decide) ?_
    refine sd_b_go 4 (pc2 := 14) (lv2 := [(0, .inr (.inr (some (331)))), (1, .inl (p1)), (2, .inl (p2))]) (st2 := [.inr (.inl (999)), .inr (.inl (1)), .inr (.inl (p2))]) rfl ?_
    obtain ⟨r3, e3, h⟩ := sd_bnd h
    refine sd_b_call [.inr (.inl (p2)), .inr (.inl (1)), .inr (.inl (999))] [] rfl rfl sd_i_X10_in rfl rfl (Nat.le_of_ble_eq_true rfl) rfl (m_X10_in (by omega) e3) ?_
    by_cases c4 : r3.1 = 0
    · rw [if_pos c4] at h
      refine sd_b_zf (c := .ne) rfl (decide_eq_false (not_not_intro c4)) (by decide) ?_
      refine sd_b_go 1 (pc2 := 21) (lv2 := [(0, .inr (.inr (some (331)))), (1, .inl (p1)), (2, .inl (p2))]) (st2 := [.inl ((-1))]) rfl ?_
      cases h
      exact sd_b_rt rfl rfl rfl
    · rw [if_neg c4] at h
      refine sd_b_zt (c := .ne) (tgt := 22) rfl (decide_eq_true c4) (by decide) ?_
      refine sd_b_go 1 (pc2 := 23) (lv2 := [(0, .inr (.inr (some (331)))), (1, .inl (p1)), (2, .inl (p2))]) (st2 := [.inr (.inr (some (331)))]) rfl ?_
      obtain ⟨r5, e5, h⟩ := sd_bnd h
      refine sd_b_call [.inr (.inr (some (331)))] [] rfl rfl sd_i_X10_keeps rfl rfl (Nat.le_of_ble_eq_true rfl) (sd_rc_v sd_o_331) (m_X10_keeps (by omega) e5) ?_
      refine sd_b_go 2 (pc2 := 28) (lv2 := [(3, .inl (1)), (0, .inr (.inr (some (331)))), (1, .inl (p1)), (2, .inl (p2))]) (st2 := []) rfl ?_
      refine sd_b_wk [(0, .inr (.inr (some (331)))), (1, .inl (p1)), (2, .inl (p2)), (3, .inl (1))] (List.forall_mem_cons.mpr ⟨rfl, (List.forall_mem_cons.mpr ⟨rfl, (List.forall_mem_cons.mpr ⟨rfl, (List.forall_mem_cons.mpr ⟨rfl, (fun _ h0 => absurd h0 List.not_mem_nil)⟩)⟩)⟩)⟩) ?_
      exact t_X10_least_28 hd 4000 p1 p2 1 r5.2 _ h
theorem m_X10_least {X : Nat → List sd_V → List sd_E → sd_A → Prop} {d : Nat} (hd : 8 ≤ d) {p1 : Int} {p2 : Int} {M : sd_M} {Rr : Int × sd_M} (h : f_X10_least p1 p2 M = some Rr) : sd_Cal X d 215 [.inr (.inr (some (331))), .inl (p1), .inl (p2)] (sd_rp M) (some (.inl Rr.1), sd_rp Rr.2, 0, 0) := by
  obtain ⟨d, rfl⟩ : ∃ d2, d = d2 + 1 := ⟨d - 1, by omega⟩
  exact sd_cal_of sd_i_X10_least (Nat.le_of_ble_eq_true rfl) (t_X10_least (by omega) p1 p2 M Rr h)
-- X10_worst
def sd_q_X10_worst : sd_MI := (yX10_worst, cX10_worst, 8, (some .int), 10, 1, sd_t_X10_worst)
set_option maxRecDepth 4000 in
theorem sd_i_X10_worst : sd_mL[216]? = some sd_q_X10_worst := rfl
def f_X10_worst_92 (k41 : Int → Int → Int → Int → Int → sd_M → Option (Int × sd_M)) (k98 : Int → Int → Int → sd_M → Option (Int × sd_M)) (v1 : Int) (v2 : Int) (v3 : Int) (v4 : Int) (v5 : Int) (M : sd_M) : Option (Int × sd_M) := k41 v1 v2 v3 v4 (sd_w (v5 + 1)) M
set_option maxRecDepth 4000 in
theorem t_X10_worst_92 {X : Nat → List sd_V → List sd_E → sd_A → Prop} {d : Nat} (hd : 7 ≤ d) (k41 : Int → Int → Int → Int → Int → sd_M → Option (Int × sd_M)) (k98 : Int → Int → Int → sd_M → Option (Int × sd_M)) (hk41 : ∀ (v1 : Int) (v2 : Int) (v3 : Int) (v4 : Int) (v5 : Int) (M : sd_M) (Rr : Int × sd_M), k41 v1 v2 v3 v4 v5 M = some Rr → sd_B X d sd_q_X10_worst 41 [(0, .inr (.inr (some (331)))), (1, .inl (v1)), (2, .inl (v2)), (3, .inl (v3)), (4, .inl (v4)), (5, .inl (v5))] [] M (some (.inl Rr.1), sd_rp Rr.2, 0, 0)) (hk98 : ∀ (v1 : Int) (v2 : Int) (v3 : Int) (M : sd_M) (Rr : Int × sd_M), k98 v1 v2 v3 M = some Rr → sd_B X d sd_q_X10_worst 98 [(1, .inl (v1)), (2, .inl (v2)), (3, .inl (v3))] [] M (some (.inl Rr.1), sd_rp Rr.2, 0, 0)) (v1 : Int) (v2 : Int) (v3 : Int) (v4 : Int) (v5 : Int) (M : sd_M) (Rr : Int × sd_M) (h : f_X10_worst_92 k41 k98 v1 v2 v3 v4 v5 M = some Rr) : sd_B X d sd_q_X10_worst 92 [(0, .inr (.inr (some (331)))), (1, .inl (v1)), (2, .inl (v2)), (3, .inl (v3)), (4, .inl (v4)), (5, .inl (v5))] [] M (some (.inl Rr.1), sd_rp Rr.2, 0, 0) := by
  unfold f_X10_worst_92 at h
  refine sd_b_go 2 (pc2 := 41) (lv2 := [(5, .inl (sd_w (v5 + 1))), (0, .inr (.inr (some (331)))), (1, .inl (v1)), (2, .inl (v2)), (3, .inl (v3)), (4, .inl (v4))]) (st2 := []) rfl ?_
  refine sd_b_wk [(0, .inr (.inr (some (331)))), (1, .inl (v1)), (2, .inl (v2)), (3, .inl (v3)), (4, .inl (v4)), (5, .inl (sd_w (v5 + 1)))] (List.forall_mem_cons.mpr ⟨rfl, (List.forall_mem_cons.mpr ⟨rfl, (List.forall_mem_cons.mpr ⟨rfl, (List.forall_mem_cons.mpr ⟨rfl, (List.forall_mem_cons.mpr ⟨rfl, (List.forall_mem_cons.mpr ⟨rfl, (fun _ h0 => absurd h0 List.not_mem_nil)⟩)⟩)⟩)⟩)⟩)⟩) ?_
  exact hk41 v1 v2 v3 v4 (sd_w (v5 + 1)) M _ h
def f_X10_worst_41 (k98 : Int → Int → Int → sd_M → Option (Int × sd_M)) : Nat → Int → Int → Int → Int → Int → sd_M → Option (Int × sd_M)
  | 0, _, _, _, _, _, _ => none
  | n + 1, v1, v2, v3, v4, v5, M => if v4 ≤ v5 then (k98 v1 v2 v3 M) else (if 0 ≤ (sd_w (89 + v5)) ∧ (sd_w (89 + v5)) < 128 then ((f_X10_cancels (M 341 (sd_w (89 + v5)).toNat) M).bind fun r3 => (f_X10_shortNow r3.2).bind fun r4 => (f_X10_laysBack r4.2).bind fun r5 => if v3 < r4.1 then (f_X10_worst_92 (f_X10_worst_41 k98 n) k98 v1 (M 341 (sd_w (89 + v5)).toNat) r4.1 v4 v5 r5.2) else (f_X10_worst_92 (f_X10_worst_41 k98 n) k98 v1 v2 v3 v4 v5 r5.2)) else none)
set_option maxRecDepth 4000 in
theorem t_X10_worst_41 {X : Nat → List sd_V → List sd_E → sd_A → Prop} {d : Nat} (hd : 7 ≤ d) (k98 : Int → Int → Int → sd_M → Option (Int × sd_M)) (hk98 : ∀ (v1 : Int) (v2 : Int) (v3 : Int) (M : sd_M) (Rr : Int × sd_M), k98 v1 v2 v3 M = some Rr → sd_B X d sd_q_X10_worst 98 [(1, .inl (v1)), (2, .inl (v2)), (3, .inl (v3))] [] M (some (.inl Rr.1), sd_rp Rr.2, 0, 0)) : ∀ (n : Nat) (v1 : Int) (v2 : Int) (v3 : Int) (v4 : Int) (v5 : Int) (M : sd_M) (Rr : Int × sd_M), f_X10_worst_41 k98 n v1 v2 v3 v4 v5 M = some Rr → sd_B X d sd_q_X10_worst 41 [(0, .inr (.inr (some (331)))), (1, .inl (v1)), (2, .inl (v2)), (3, .inl (v3)), (4, .inl (v4)), (5, .inl (v5))] [] M (some (.inl Rr.1), sd_rp Rr.2, 0, 0) := by
  intro n
  induction n with
  | zero => intro v1 v2 v3 v4 v5 M Rr h; cases h
  | succ n ih =>
    intro v1 v2 v3 v4 v5 M Rr h
    rw [f_X10_worst_41] at h
    refine sd_b_go 2 (pc2 := 45) (lv2 := [(0, .inr (.inr (some (331)))), (1, .inl (v1)), (2, .inl (v2)), (3, .inl (v3)), (4, .inl (v4)), (5, .inl (v5))]) (st2 := [.inl (v4), .inl (v5)]) rfl ?_
    by_cases c1 : v4 ≤ v5
    · rw [if_pos c1] at h
      refine sd_b_ct (c := .ge) (tgt := 98) rfl (decide_eq_true c1) (by decide) ?_
      refine sd_b_wk [(1, .inl (v1)), (2, .inl (v2)), (3, .inl (v3))] (List.forall_mem_cons.mpr ⟨rfl, (List.forall_mem_cons.mpr ⟨rfl, (List.forall_mem_cons.mpr ⟨rfl, (fun _ h0 => absurd h0 List.not_mem_nil)⟩)⟩)⟩) ?_
      exact hk98 v1 v2 v3 M _ h
    · rw [if_neg c1] at h
      refine sd_b_cf (c := .ge) rfl (decide_eq_false c1) (by decide) ?_
      refine sd_b_go 1 (pc2 := 49) (lv2 := [(0, .inr (.inr (some (331)))), (1, .inl (v1)), (2, .inl (v2)), (3, .inl (v3)), (4, .inl (v4)), (5, .inl (v5))]) (st2 := [.inr (.inr (some (331)))]) rfl ?_
      refine sd_b_gr (k := 20) sd_o_331 rfl rfl rfl ?_
      refine sd_b_go 3 (pc2 := 57) (lv2 := [(0, .inr (.inr (some (331)))), (1, .inl (v1)), (2, .inl (v2)), (3, .inl (v3)), (4, .inl (v4)), (5, .inl (v5))]) (st2 := [.inl (sd_w (89 + v5)), .inr (.inr (some (341)))]) rfl ?_
      obtain ⟨g2, h⟩ := sd_if h
      refine sd_b_ai (sd_oa sd_o_331 (by decide) (off := 10) (List.mem_of_getElem? (i := 9) rfl)) g2 rfl ?_
      refine sd_b_go 3 (pc2 := 63) (lv2 := [(6, .inl (M 341 (sd_w (89 + v5)).toNat)), (0, .inr (.inr (some (331)))), (1, .inl (v1)), (2, .inl (v2)), (3, .inl (v3)), (4, .inl (v4)), (5, .inl (v5))]) (st2 := [.inl (M 341 (sd_w (89 + v5)).toNat), .inr (.inr (some (331)))]) rfl ?_
      obtain ⟨r3, e3, h⟩ := sd_bnd h
      refine sd_b_call [.inr (.inr (some (331))), .inl (M 341 (sd_w (89 + v5)).toNat)] [] rfl rfl sd_i_X10_cancels rfl rfl (Nat.le_of_ble_eq_true rfl) (sd_rc_v sd_o_331) (m_X10_cancels (by omega) e3) ?_
      refine sd_b_go 2 (pc2 := 68) (lv2 := [(6, .inl (M 341 (sd_w (89 + v5)).toNat)), (0, .inr (.inr (some (331)))), (1, .inl (v1)), (2, .inl (v2)), (3, .inl (v3)), (4, .inl (v4)), (5, .inl (v5))]) (st2 := [.inr (.inr (some (331)))]) rfl ?_
      obtain ⟨r4, e4, h⟩ := sd_bnd h
      refine sd_b_call [.inr (.inr (some (331)))] [] rfl rfl sd_i_X10_shortNow rfl rfl (Nat.le_of_ble_eq_true rfl) (sd_rc_v sd_o_331) (m_X10_shortNow (by omega) e4) ?_
      refine sd_b_go 2 (pc2 := 74) (lv2 := [(7, .inl (r4.1)), (6, .inl (M 341 (sd_w (89 + v5)).toNat)), (0, .inr (.inr (some (331)))), (1, .inl (v1)), (2, .inl (v2)), (3, .inl (v3)), (4, .inl (v4)), (5, .inl (v5))]) (st2 := [.inr (.inr (some (331)))]) rfl ?_
      obtain ⟨r5, e5, h⟩ := sd_bnd h
      refine sd_b_call [.inr (.inr (some (331)))] [] rfl rfl sd_i_X10_laysBack rfl rfl (Nat.le_of_ble_eq_true rfl) (sd_rc_v sd_o_331) (m_X10_laysBack (by omega) e5) ?_
      refine sd_b_go 2 (pc2 := 80) (lv2 := [(7, .inl (r4.1)), (6, .inl (M 341 (sd_w (89 + v5)).toNat)), (0, .inr (.inr (some (331)))), (1, .inl (v1)), (2, .inl (v2)), (3, .inl (v3)), (4, .inl (v4)), (5, .inl (v5))]) (st2 := [.inl (v3), .inl (r4.1)]) rfl ?_
      by_cases c6 : v3 < r4.1
      · rw [if_pos c6] at h
        refine sd_b_ct (c := .gt) (tgt := 86) rfl (decide_eq_true c6) (by decide) ?_
        refine sd_b_go 4 (pc2 := 92) (lv2 := [(3, .inl (r4.1)), (2, .inl (M 341 (sd_w (89 + v5)).toNat)), (7, .inl (r4.1)), (6, .inl (M 341 (sd_w (89 + v5)).toNat)), (0, .inr (.inr (some (331)))), (1, .inl (v1)), (4, .inl (v4)), (5, .inl (v5))]) (st2 := []) rfl ?_
        refine sd_b_wk [(0, .inr (.inr (some (331)))), (1, .inl (v1)), (2, .inl (M 341 (sd_w (89 + v5)).toNat)), (3, .inl (r4.1)), (4, .inl (v4)), (5, .inl (v5))] (List.forall_mem_cons.mpr ⟨rfl, (List.forall_mem_cons.mpr ⟨rfl, (List.forall_mem_cons.mpr ⟨rfl, (List.forall_mem_cons.mpr ⟨rfl, (List.forall_mem_cons.mpr ⟨rfl, (List.forall_mem_cons.mpr ⟨rfl, (fun _ h0 => absurd h0 List.not_mem_nil)⟩)⟩)⟩)⟩)⟩)⟩) ?_
        exact t_X10_worst_92 hd (f_X10_worst_41 k98 n) k98 ih hk98 v1 (M 341 (sd_w (89 + v5)).toNat) r4.1 v4 v5 r5.2 _ h
      · rw [if_neg c6] at h
        refine sd_b_cf (c := .gt) rfl (decide_eq_false c6) (by decide) ?_
        refine sd_b_go 1 (pc2 := 92) (lv2 := [(7, .inl (r4.1)), (6, .inl (M 341 (sd_w (89 + v5)).toNat)), (0, .inr (.inr (some (331)))), (1, .inl (v1)), (2, .inl (v2)), (3, .inl (v3)), (4, .inl (v4)), (5, .inl (v5))]) (st2 := []) rfl ?_
        refine sd_b_wk [(0, .inr (.inr (some (331)))), (1, .inl (v1)), (2, .inl (v2)), (3, .inl (v3)), (4, .inl (v4)), (5, .inl (v5))] (List.forall_mem_cons.mpr ⟨rfl, (List.forall_mem_cons.mpr ⟨rfl, (List.forall_mem_cons.mpr ⟨rfl, (List.forall_mem_cons.mpr ⟨rfl, (List.forall_mem_cons.mpr ⟨rfl, (List.forall_mem_cons.mpr ⟨rfl, (fun _ h0 => absurd h0 List.not_mem_nil)⟩)⟩)⟩)⟩)⟩)⟩) ?_
        exact t_X10_worst_92 hd (f_X10_worst_41 k98 n) k98 ih hk98 v1 v2 v3 v4 v5 r5.2 _ h
def f_X10_worst_98 (v1 : Int) (v2 : Int) (v3 : Int) (M : sd_M) : Option (Int × sd_M) := if v1 = 0 then (some (v2, M)) else (some (v3, M))
set_option maxRecDepth 4000 in
theorem t_X10_worst_98 {X : Nat → List sd_V → List sd_E → sd_A → Prop} {d : Nat} (hd : 7 ≤ d) (v1 : Int) (v2 : Int) (v3 : Int) (M : sd_M) (Rr : Int × sd_M) (h : f_X10_worst_98 v1 v2 v3 M = some Rr) : sd_B X d sd_q_X10_worst 98 [(1, .inl (v1)), (2, .inl (v2)), (3, .inl (v3))] [] M (some (.inl Rr.1), sd_rp Rr.2, 0, 0) := by
  unfold f_X10_worst_98 at h
  refine sd_b_go 1 (pc2 := 99) (lv2 := [(1, .inl (v1)), (2, .inl (v2)), (3, .inl (v3))]) (st2 := [.inl (v1)]) rfl ?_
  by_cases c1 : v1 = 0
  · rw [if_pos c1] at h
    refine sd_b_zf (c := .ne) rfl (decide_eq_false (not_not_intro c1)) (by decide) ?_
    refine sd_b_go 2 (pc2 := 107) (lv2 := [(1, .inl (v1)), (2, .inl (v2)), (3, .inl (v3))]) (st2 := [.inl (v2)]) rfl ?_
    cases h
    exact sd_b_rt rfl rfl rfl
  · rw [if_neg c1] at h
    refine sd_b_zt (c := .ne) (tgt := 106) rfl (decide_eq_true c1) (by decide) ?_
    refine sd_b_go 1 (pc2 := 107) (lv2 := [(1, .inl (v1)), (2, .inl (v2)), (3, .inl (v3))]) (st2 := [.inl (v3)]) rfl ?_
    cases h
    exact sd_b_rt rfl rfl rfl
def f_X10_worst (p1 : Int) (M : sd_M) : Option (Int × sd_M) := (f_X10_isSlip M).bind fun r1 => if r1.1 = 0 then (some ((-1), r1.2)) else ((f_X10_in p1 0 1 r1.2).bind fun r3 => if r3.1 = 0 then (some ((-1), r3.2)) else ((f_X10_keeps r3.2).bind fun r5 => f_X10_worst_41 (f_X10_worst_98) 4000 p1 ((-2)) ((-2)) (r3.2 341 60) 0 r5.2))
set_option maxRecDepth 4000 in
theorem t_X10_worst {X : Nat → List sd_V → List sd_E → sd_A → Prop} {d : Nat} (hd : 7 ≤ d) (p1 : Int) (M : sd_M) (Rr : Int × sd_M) (h : f_X10_worst p1 M = some Rr) : sd_B X d sd_q_X10_worst 0 [(0, .inr (.inr (some (331)))), (1, .inl (p1))] [] M (some (.inl Rr.1), sd_rp Rr.2, 0, 0) := by
  unfold f_X10_worst at h
  refine sd_b_go 1 (pc2 := 1) (lv2 := [(0, .inr (.inr (some (331)))), (1, .inl (p1))]) (st2 := [.inr (.inr (some (331)))]) rfl ?_
  obtain ⟨r1, e1, h⟩ := sd_bnd h
  refine sd_b_call [.inr (.inr (some (331)))] [] rfl rfl sd_i_X10_isSlip rfl rfl (Nat.le_of_ble_eq_true rfl) (sd_rc_v sd_o_331) (m_X10_isSlip (by omega) e1) ?_
  by_cases c2 : r1.1 = 0
  · rw [if_pos c2] at h
    refine sd_b_zt (c := .eq) (tgt := 17) rfl (decide_eq_true c2) (by decide) ?_
    refine sd_b_go 1 (pc2 := 18) (lv2 := [(0, .inr (.inr (some (331)))), (1, .inl (p1))]) (st2 := [.inl ((-1))]) rfl ?_
    cases h
    exact sd_b_rt rfl rfl rfl
  · rw [if_neg c2] at h
    refine sd_b_zf (c := .eq) rfl (decide_eq_false c2) (by decide) ?_
    refine sd_b_go 4 (pc2 := 11) (lv2 := [(0, .inr (.inr (some (331)))), (1, .inl (p1))]) (st2 := [.inr (.inl (1)), .inr (.inl (0)), .inr (.inl (p1))]) rfl ?_
    obtain ⟨r3, e3, h⟩ := sd_bnd h
    refine sd_b_call [.inr (.inl (p1)), .inr (.inl (0)), .inr (.inl (1))] [] rfl rfl sd_i_X10_in rfl rfl (Nat.le_of_ble_eq_true rfl) rfl (m_X10_in (by omega) e3) ?_
    by_cases c4 : r3.1 = 0
    · rw [if_pos c4] at h
      refine sd_b_zf (c := .ne) rfl (decide_eq_false (not_not_intro c4)) (by decide) ?_
      refine sd_b_go 1 (pc2 := 18) (lv2 := [(0, .inr (.inr (some (331)))), (1, .inl (p1))]) (st2 := [.inl ((-1))]) rfl ?_
      cases h
      exact sd_b_rt rfl rfl rfl
    · rw [if_neg c4] at h
      refine sd_b_zt (c := .ne) (tgt := 19) rfl (decide_eq_true c4) (by decide) ?_
      refine sd_b_go 5 (pc2 := 26) (lv2 := [(3, .inl ((-2))), (2, .inl ((-2))), (0, .inr (.inr (some (331)))), (1, .inl (p1))]) (st2 := [.inr (.inr (some (331)))]) rfl ?_
      refine sd_b_gr (k := 20) sd_o_331 rfl rfl rfl ?_
      refine sd_b_go 1 (pc2 := 31) (lv2 := [(3, .inl ((-2))), (2, .inl ((-2))), (0, .inr (.inr (some (331)))), (1, .inl (p1))]) (st2 := [.inl (60), .inr (.inr (some (341)))]) rfl ?_
      refine sd_b_ai (i := 60) (sd_oa sd_o_331 (by decide) (off := 10) (List.mem_of_getElem? (i := 9) rfl)) (by decide) rfl ?_
      refine sd_b_go 2 (pc2 := 35) (lv2 := [(4, .inl (r3.2 341 60)), (3, .inl ((-2))), (2, .inl ((-2))), (0, .inr (.inr (some (331)))), (1, .inl (p1))]) (st2 := [.inr (.inr (some (331)))]) rfl ?_
      obtain ⟨r5, e5, h⟩ := sd_bnd h
      refine sd_b_call [.inr (.inr (some (331)))] [] rfl rfl sd_i_X10_keeps rfl rfl (Nat.le_of_ble_eq_true rfl) (sd_rc_v sd_o_331) (m_X10_keeps (by omega) e5) ?_
      refine sd_b_go 2 (pc2 := 41) (lv2 := [(5, .inl (0)), (4, .inl (r3.2 341 60)), (3, .inl ((-2))), (2, .inl ((-2))), (0, .inr (.inr (some (331)))), (1, .inl (p1))]) (st2 := []) rfl ?_
      refine sd_b_wk [(0, .inr (.inr (some (331)))), (1, .inl (p1)), (2, .inl ((-2))), (3, .inl ((-2))), (4, .inl (r3.2 341 60)), (5, .inl (0))] (List.forall_mem_cons.mpr ⟨rfl, (List.forall_mem_cons.mpr ⟨rfl, (List.forall_mem_cons.mpr ⟨rfl, (List.forall_mem_cons.mpr ⟨rfl, (List.forall_mem_cons.mpr ⟨rfl, (List.forall_mem_cons.mpr ⟨rfl, (fun _ h0 => absurd h0 List.not_mem_nil)⟩)⟩)⟩)⟩)⟩)⟩) ?_
      exact t_X10_worst_41 hd (f_X10_worst_98) (t_X10_worst_98 hd) 4000 p1 ((-2)) ((-2)) (r3.2 341 60) 0 r5.2 _ h
theorem m_X10_worst {X : Nat → List sd_V → List sd_E → sd_A → Prop} {d : Nat} (hd : 8 ≤ d) {p1 : Int} {M : sd_M} {Rr : Int × sd_M} (h : f_X10_worst p1 M = some Rr) : sd_Cal X d 216 [.inr (.inr (some (331))), .inl (p1)] (sd_rp M) (some (.inl Rr.1), sd_rp Rr.2, 0, 0) := by
  obtain ⟨d, rfl⟩ : ∃ d2, d = d2 + 1 := ⟨d - 1, by omega⟩
  exact sd_cal_of sd_i_X10_worst (Nat.le_of_ble_eq_true rfl) (t_X10_worst (by omega) p1 M Rr h)
-- X10_firm
def sd_q_X10_firm : sd_MI := (yX10_firm, cX10_firm, 4, (some .int), 10, 0, sd_t_X10_firm)
set_option maxRecDepth 4000 in
theorem sd_i_X10_firm : sd_mL[217]? = some sd_q_X10_firm := rfl
def f_X10_firm_66 (k23 : Int → Int → Int → sd_M → Option (Int × sd_M)) (v1 : Int) (v2 : Int) (v3 : Int) (M : sd_M) : Option (Int × sd_M) := k23 v1 v2 (sd_w (v3 + 1)) M
set_option maxRecDepth 4000 in
theorem t_X10_firm_66 {X : Nat → List sd_V → List sd_E → sd_A → Prop} {d : Nat} (hd : 7 ≤ d) (k23 : Int → Int → Int → sd_M → Option (Int × sd_M)) (hk23 : ∀ (v1 : Int) (v2 : Int) (v3 : Int) (M : sd_M) (Rr : Int × sd_M), k23 v1 v2 v3 M = some Rr → sd_B X d sd_q_X10_firm 23 [(0, .inr (.inr (some (331)))), (1, .inl (v1)), (2, .inl (v2)), (3, .inl (v3))] [] M (some (.inl Rr.1), sd_rp Rr.2, 0, 0)) (v1 : Int) (v2 : Int) (v3 : Int) (M : sd_M) (Rr : Int × sd_M) (h : f_X10_firm_66 k23 v1 v2 v3 M = some Rr) : sd_B X d sd_q_X10_firm 66 [(0, .inr (.inr (some (331)))), (1, .inl (v1)), (2, .inl (v2)), (3, .inl (v3))] [] M (some (.inl Rr.1), sd_rp Rr.2, 0, 0) := by
  unfold f_X10_firm_66 at h
  refine sd_b_go 2 (pc2 := 23) (lv2 := [(3, .inl (sd_w (v3 + 1))), (0, .inr (.inr (some (331)))), (1, .inl (v1)), (2, .inl (v2))]) (st2 := []) rfl ?_
  refine sd_b_wk [(0, .inr (.inr (some (331)))), (1, .inl (v1)), (2, .inl (v2)), (3, .inl (sd_w (v3 + 1)))] (List.forall_mem_cons.mpr ⟨rfl, (List.forall_mem_cons.mpr ⟨rfl, (List.forall_mem_cons.mpr ⟨rfl, (List.forall_mem_cons.mpr ⟨rfl, (fun _ h0 => absurd h0 List.not_mem_nil)⟩)⟩)⟩)⟩) ?_
  exact hk23 v1 v2 (sd_w (v3 + 1)) M _ h
def f_X10_firm_23 : Nat → Int → Int → Int → sd_M → Option (Int × sd_M)
  | 0, _, _, _, _ => none
  | n + 1, v1, v2, v3, M => if (M 341 2) ≤ v3 then (some (v2, M)) else ((f_X10_isOf v1 v3 M).bind fun r2 => if r2.1 = 0 then (f_X10_firm_66 (f_X10_firm_23 n) v1 v2 v3 r2.2) else ((f_X10_cancels v3 r2.2).bind fun r4 => (f_X10_onesAt 1 r4.2).bind fun r5 => (f_X10_laysBack r5.2).bind fun r6 => f_X10_firm_66 (f_X10_firm_23 n) v1 (sd_and (v2) (sd_or (r5.1) (sd_shl (1) (v3)))) v3 r6.2))
set_option maxRecDepth 4000 in
theorem t_X10_firm_23 {X : Nat → List sd_V → List sd_E → sd_A → Prop} {d : Nat} (hd : 7 ≤ d) : ∀ (n : Nat) (v1 : Int) (v2 : Int) (v3 : Int) (M : sd_M) (Rr : Int × sd_M), f_X10_firm_23 n v1 v2 v3 M = some Rr → sd_B X d sd_q_X10_firm 23 [(0, .inr (.inr (some (331)))), (1, .inl (v1)), (2, .inl (v2)), (3, .inl (v3))] [] M (some (.inl Rr.1), sd_rp Rr.2, 0, 0) := by
  intro n
  induction n with
  | zero => intro v1 v2 v3 M Rr h; cases h
  | succ n ih =>
    intro v1 v2 v3 M Rr h
    rw [f_X10_firm_23] at h
    refine sd_b_go 2 (pc2 := 25) (lv2 := [(0, .inr (.inr (some (331)))), (1, .inl (v1)), (2, .inl (v2)), (3, .inl (v3))]) (st2 := [.inr (.inr (some (331))), .inl (v3)]) rfl ?_
    refine sd_b_gr (k := 20) sd_o_331 rfl rfl rfl ?_
    refine sd_b_go 1 (pc2 := 29) (lv2 := [(0, .inr (.inr (some (331)))), (1, .inl (v1)), (2, .inl (v2)), (3, .inl (v3))]) (st2 := [.inl (2), .inr (.inr (some (341))), .inl (v3)]) rfl ?_
    refine sd_b_ai (i := 2) (sd_oa sd_o_331 (by decide) (off := 10) (List.mem_of_getElem? (i := 9) rfl)) (by decide) rfl ?_
    by_cases c1 : (M 341 2) ≤ v3
    · rw [if_pos c1] at h
      refine sd_b_ct (c := .ge) (tgt := 72) rfl (decide_eq_true c1) (by decide) ?_
      refine sd_b_go 1 (pc2 := 73) (lv2 := [(0, .inr (.inr (some (331)))), (1, .inl (v1)), (2, .inl (v2)), (3, .inl (v3))]) (st2 := [.inl (v2)]) rfl ?_
      cases h
      exact sd_b_rt rfl rfl rfl
    · rw [if_neg c1] at h
      refine sd_b_cf (c := .ge) rfl (decide_eq_false c1) (by decide) ?_
      refine sd_b_go 2 (pc2 := 35) (lv2 := [(0, .inr (.inr (some (331)))), (1, .inl (v1)), (2, .inl (v2)), (3, .inl (v3))]) (st2 := [.inl (v3), .inl (v1)]) rfl ?_
      obtain ⟨r2, e2, h⟩ := sd_bnd h
      refine sd_b_call [.inl (v1), .inl (v3)] [] rfl rfl sd_i_X10_isOf rfl rfl (Nat.le_of_ble_eq_true rfl) rfl (m_X10_isOf (by omega) e2) ?_
      by_cases c3 : r2.1 = 0
      · rw [if_pos c3] at h
        refine sd_b_zf (c := .ne) rfl (decide_eq_false (not_not_intro c3)) (by decide) ?_
        refine sd_b_go 1 (pc2 := 66) (lv2 := [(0, .inr (.inr (some (331)))), (1, .inl (v1)), (2, .inl (v2)), (3, .inl (v3))]) (st2 := []) rfl ?_
        refine sd_b_wk [(0, .inr (.inr (some (331)))), (1, .inl (v1)), (2, .inl (v2)), (3, .inl (v3))] (List.forall_mem_cons.mpr ⟨rfl, (List.forall_mem_cons.mpr ⟨rfl, (List.forall_mem_cons.mpr ⟨rfl, (List.forall_mem_cons.mpr ⟨rfl, (fun _ h0 => absurd h0 List.not_mem_nil)⟩)⟩)⟩)⟩) ?_
        exact t_X10_firm_66 hd (f_X10_firm_23 n) ih v1 v2 v3 r2.2 _ h
      · rw [if_neg c3] at h
        refine sd_b_zt (c := .ne) (tgt := 44) rfl (decide_eq_true c3) (by decide) ?_
        refine sd_b_go 2 (pc2 := 46) (lv2 := [(0, .inr (.inr (some (331)))), (1, .inl (v1)), (2, .inl (v2)), (3, .inl (v3))]) (st2 := [.inl (v3), .inr (.inr (some (331)))]) rfl ?_
        obtain ⟨r4, e4, h⟩ := sd_bnd h
        refine sd_b_call [.inr (.inr (some (331))), .inl (v3)] [] rfl rfl sd_i_X10_cancels rfl rfl (Nat.le_of_ble_eq_true rfl) (sd_rc_v sd_o_331) (m_X10_cancels (by omega) e4) ?_
        refine sd_b_go 4 (pc2 := 53) (lv2 := [(0, .inr (.inr (some (331)))), (1, .inl (v1)), (2, .inl (v2)), (3, .inl (v3))]) (st2 := [.inl (1), .inr (.inr (some (331))), .inl (v2)]) rfl ?_
        obtain ⟨r5, e5, h⟩ := sd_bnd h
        refine sd_b_call [.inr (.inr (some (331))), .inl (1)] [.inl (v2)] rfl rfl sd_i_X10_onesAt rfl rfl (Nat.le_of_ble_eq_true rfl) (sd_rc_v sd_o_331) (m_X10_onesAt (by omega) e5) ?_
        refine sd_b_go 7 (pc2 := 63) (lv2 := [(2, .inl (sd_and (v2) (sd_or (r5.1) (sd_shl (1) (v3))))), (0, .inr (.inr (some (331)))), (1, .inl (v1)), (3, .inl (v3))]) (st2 := [.inr (.inr (some (331)))]) rfl ?_
        obtain ⟨r6, e6, h⟩ := sd_bnd h
        refine sd_b_call [.inr (.inr (some (331)))] [] rfl rfl sd_i_X10_laysBack rfl rfl (Nat.le_of_ble_eq_true rfl) (sd_rc_v sd_o_331) (m_X10_laysBack (by omega) e6) ?_
        refine sd_b_wk [(0, .inr (.inr (some (331)))), (1, .inl (v1)), (2, .inl (sd_and (v2) (sd_or (r5.1) (sd_shl (1) (v3))))), (3, .inl (v3))] (List.forall_mem_cons.mpr ⟨rfl, (List.forall_mem_cons.mpr ⟨rfl, (List.forall_mem_cons.mpr ⟨rfl, (List.forall_mem_cons.mpr ⟨rfl, (fun _ h0 => absurd h0 List.not_mem_nil)⟩)⟩)⟩)⟩) ?_
        exact t_X10_firm_66 hd (f_X10_firm_23 n) ih v1 (sd_and (v2) (sd_or (r5.1) (sd_shl (1) (v3)))) v3 r6.2 _ h
def f_X10_firm (M : sd_M) : Option (Int × sd_M) := (f_X10_isSlip M).bind fun r1 => if r1.1 = 0 then (some ((-1), r1.2)) else ((f_X10_onesAt 1 r1.2).bind fun r3 => (f_X10_keeps r3.2).bind fun r4 => f_X10_firm_23 4000 r3.1 r3.1 0 r4.2)
set_option maxRecDepth 4000 in
theorem t_X10_firm {X : Nat → List sd_V → List sd_E → sd_A → Prop} {d : Nat} (hd : 7 ≤ d) (M : sd_M) (Rr : Int × sd_M) (h : f_X10_firm M = some Rr) : sd_B X d sd_q_X10_firm 0 [(0, .inr (.inr (some (331))))] [] M (some (.inl Rr.1), sd_rp Rr.2, 0, 0) := by
  unfold f_X10_firm at h
  refine sd_b_go 1 (pc2 := 1) (lv2 := [(0, .inr (.inr (some (331))))]) (st2 := [.inr (.inr (some (331)))]) rfl ?_
  obtain ⟨r1, e1, h⟩ := sd_bnd h
  refine sd_b_call [.inr (.inr (some (331)))] [] rfl rfl sd_i_X10_isSlip rfl rfl (Nat.le_of_ble_eq_true rfl) (sd_rc_v sd_o_331) (m_X10_isSlip (by omega) e1) ?_
  by_cases c2 : r1.1 = 0
  · rw [if_pos c2] at h
    refine sd_b_zf (c := .ne) rfl (decide_eq_false (not_not_intro c2)) (by decide) ?_
    refine sd_b_go 1 (pc2 := 8) (lv2 := [(0, .inr (.inr (some (331))))]) (st2 := [.inl ((-1))]) rfl ?_
    cases h
    exact sd_b_rt rfl rfl rfl
  · rw [if_neg c2] at h
    refine sd_b_zt (c := .ne) (tgt := 9) rfl (decide_eq_true c2) (by decide) ?_
    refine sd_b_go 2 (pc2 := 11) (lv2 := [(0, .inr (.inr (some (331))))]) (st2 := [.inl (1), .inr (.inr (some (331)))]) rfl ?_
    obtain ⟨r3, e3, h⟩ := sd_bnd h
    refine sd_b_call [.inr (.inr (some (331))), .inl (1)] [] rfl rfl sd_i_X10_onesAt rfl rfl (Nat.le_of_ble_eq_true rfl) (sd_rc_v sd_o_331) (m_X10_onesAt (by omega) e3) ?_
    refine sd_b_go 4 (pc2 := 18) (lv2 := [(2, .inl (r3.1)), (1, .inl (r3.1)), (0, .inr (.inr (some (331))))]) (st2 := [.inr (.inr (some (331)))]) rfl ?_
    obtain ⟨r4, e4, h⟩ := sd_bnd h
    refine sd_b_call [.inr (.inr (some (331)))] [] rfl rfl sd_i_X10_keeps rfl rfl (Nat.le_of_ble_eq_true rfl) (sd_rc_v sd_o_331) (m_X10_keeps (by omega) e4) ?_
    refine sd_b_go 2 (pc2 := 23) (lv2 := [(3, .inl (0)), (2, .inl (r3.1)), (1, .inl (r3.1)), (0, .inr (.inr (some (331))))]) (st2 := []) rfl ?_
    refine sd_b_wk [(0, .inr (.inr (some (331)))), (1, .inl (r3.1)), (2, .inl (r3.1)), (3, .inl (0))] (List.forall_mem_cons.mpr ⟨rfl, (List.forall_mem_cons.mpr ⟨rfl, (List.forall_mem_cons.mpr ⟨rfl, (List.forall_mem_cons.mpr ⟨rfl, (fun _ h0 => absurd h0 List.not_mem_nil)⟩)⟩)⟩)⟩) ?_
    exact t_X10_firm_23 hd 4000 r3.1 r3.1 0 r4.2 _ h
theorem m_X10_firm {X : Nat → List sd_V → List sd_E → sd_A → Prop} {d : Nat} (hd : 8 ≤ d) {M : sd_M} {Rr : Int × sd_M} (h : f_X10_firm M = some Rr) : sd_Cal X d 217 [.inr (.inr (some (331)))] (sd_rp M) (some (.inl Rr.1), sd_rp Rr.2, 0, 0) := by
  obtain ⟨d, rfl⟩ : ∃ d2, d = d2 + 1 := ⟨d - 1, by omega⟩
  exact sd_cal_of sd_i_X10_firm (Nat.le_of_ble_eq_true rfl) (t_X10_firm (by omega) M Rr h)
-- X10_signedBy
def sd_q_X10_signedBy : sd_MI := (yX10_signedBy, cX10_signedBy, 4, (some .int), 10, 1, sd_t_X10_signedBy)
set_option maxRecDepth 4000 in
theorem sd_i_X10_signedBy : sd_mL[218]? = some sd_q_X10_signedBy := rfl
def f_X10_signedBy_42 (k4 : Int → Int → Int → sd_M → Option (Int × sd_M)) (v1 : Int) (v3 : Int) (s0 : Int) (s1 : Int) (M : sd_M) : Option (Int × sd_M) := k4 v1 (sd_w (s1 + s0)) (sd_w (v3 + 1)) M
set_option maxRecDepth 4000 in
theorem t_X10_signedBy_42 {X : Nat → List sd_V → List sd_E → sd_A → Prop} {d : Nat} (hd : 1 ≤ d) (k4 : Int → Int → Int → sd_M → Option (Int × sd_M)) (hk4 : ∀ (v1 : Int) (v2 : Int) (v3 : Int) (M : sd_M) (Rr : Int × sd_M), k4 v1 v2 v3 M = some Rr → sd_B X d sd_q_X10_signedBy 4 [(0, .inr (.inr (some (331)))), (1, .inl (v1)), (2, .inl (v2)), (3, .inl (v3))] [] M (some (.inl Rr.1), sd_rp Rr.2, 0, 0)) (v1 : Int) (v3 : Int) (s0 : Int) (s1 : Int) (M : sd_M) (Rr : Int × sd_M) (h : f_X10_signedBy_42 k4 v1 v3 s0 s1 M = some Rr) : sd_B X d sd_q_X10_signedBy 42 [(0, .inr (.inr (some (331)))), (1, .inl (v1)), (3, .inl (v3))] [.inl (s0), .inl (s1)] M (some (.inl Rr.1), sd_rp Rr.2, 0, 0) := by
  unfold f_X10_signedBy_42 at h
  refine sd_b_go 4 (pc2 := 4) (lv2 := [(3, .inl (sd_w (v3 + 1))), (2, .inl (sd_w (s1 + s0))), (0, .inr (.inr (some (331)))), (1, .inl (v1))]) (st2 := []) rfl ?_
  refine sd_b_wk [(0, .inr (.inr (some (331)))), (1, .inl (v1)), (2, .inl (sd_w (s1 + s0))), (3, .inl (sd_w (v3 + 1)))] (List.forall_mem_cons.mpr ⟨rfl, (List.forall_mem_cons.mpr ⟨rfl, (List.forall_mem_cons.mpr ⟨rfl, (List.forall_mem_cons.mpr ⟨rfl, (fun _ h0 => absurd h0 List.not_mem_nil)⟩)⟩)⟩)⟩) ?_
  exact hk4 v1 (sd_w (s1 + s0)) (sd_w (v3 + 1)) M _ h
def f_X10_signedBy_4 : Nat → Int → Int → Int → sd_M → Option (Int × sd_M)
  | 0, _, _, _, _ => none
  | n + 1, v1, v2, v3, M => if (M 341 60) ≤ v3 then (some (v2, M)) else (if 0 ≤ (sd_w (89 + v3)) ∧ (sd_w (89 + v3)) < 128 then ((f_X10_isOf v1 (M 341 (sd_w (89 + v3)).toNat) M).bind fun r3 => if r3.1 = 0 then (f_X10_signedBy_42 (f_X10_signedBy_4 n) v1 v3 0 v2 r3.2) else (if 0 ≤ v3 ∧ v3 < 9 then (f_X10_signedBy_42 (f_X10_signedBy_4 n) v1 v3 ((r3.2) 344 v3.toNat) v2 r3.2) else none)) else none)
set_option maxRecDepth 4000 in
theorem t_X10_signedBy_4 {X : Nat → List sd_V → List sd_E → sd_A → Prop} {d : Nat} (hd : 1 ≤ d) : ∀ (n : Nat) (v1 : Int) (v2 : Int) (v3 : Int) (M : sd_M) (Rr : Int × sd_M), f_X10_signedBy_4 n v1 v2 v3 M = some Rr → sd_B X d sd_q_X10_signedBy 4 [(0, .inr (.inr (some (331)))), (1, .inl (v1)), (2, .inl (v2)), (3, .inl (v3))] [] M (some (.inl Rr.1), sd_rp Rr.2, 0, 0) := by
  intro n
  induction n with
  | zero => intro v1 v2 v3 M Rr h; cases h
  | succ n ih =>
    intro v1 v2 v3 M Rr h
    rw [f_X10_signedBy_4] at h
    refine sd_b_go 2 (pc2 := 6) (lv2 := [(0, .inr (.inr (some (331)))), (1, .inl (v1)), (2, .inl (v2)), (3, .inl (v3))]) (st2 := [.inr (.inr (some (331))), .inl (v3)]) rfl ?_
    refine sd_b_gr (k := 20) sd_o_331 rfl rfl rfl ?_
    refine sd_b_go 1 (pc2 := 11) (lv2 := [(0, .inr (.inr (some (331)))), (1, .inl (v1)), (2, .inl (v2)), (3, .inl (v3))]) (st2 := [.inl (60), .inr (.inr (some (341))), .inl (v3)]) rfl ?_
    refine sd_b_ai (i := 60) (sd_oa sd_o_331 (by decide) (off := 10) (List.mem_of_getElem? (i := 9) rfl)) (by decide) rfl ?_
    by_cases c1 : (M 341 60) ≤ v3
    · rw [if_pos c1] at h
      refine sd_b_ct (c := .ge) (tgt := 50) rfl (decide_eq_true c1) (by decide) ?_
      refine sd_b_go 1 (pc2 := 51) (lv2 := [(0, .inr (.inr (some (331)))), (1, .inl (v1)), (2, .inl (v2)), (3, .inl (v3))]) (st2 := [.inl (v2)]) rfl ?_
      cases h
      exact sd_b_rt rfl rfl rfl
    · rw [if_neg c1] at h
      refine sd_b_cf (c := .ge) rfl (decide_eq_false c1) (by decide) ?_
      refine sd_b_go 3 (pc2 := 18) (lv2 := [(0, .inr (.inr (some (331)))), (1, .inl (v1)), (2, .inl (v2)), (3, .inl (v3))]) (st2 := [.inr (.inr (some (331))), .inl (v1), .inl (v2)]) rfl ?_
      refine sd_b_gr (k := 20) sd_o_331 rfl rfl rfl ?_
      refine sd_b_go 3 (pc2 := 25) (lv2 := [(0, .inr (.inr (some (331)))), (1, .inl (v1)), (2, .inl (v2)), (3, .inl (v3))]) (st2 := [.inl (sd_w (89 + v3)), .inr (.inr (some (341))), .inl (v1), .inl (v2)]) rfl ?_
      obtain ⟨g2, h⟩ := sd_if h
      refine sd_b_ai (sd_oa sd_o_331 (by decide) (off := 10) (List.mem_of_getElem? (i := 9) rfl)) g2 rfl ?_
      obtain ⟨r3, e3, h⟩ := sd_bnd h
      refine sd_b_call [.inl (v1), .inl (M 341 (sd_w (89 + v3)).toNat)] [.inl (v2)] rfl rfl sd_i_X10_isOf rfl rfl (Nat.le_of_ble_eq_true rfl) rfl (m_X10_isOf (by omega) e3) ?_
      by_cases c4 : r3.1 = 0
      · rw [if_pos c4] at h
        refine sd_b_zt (c := .eq) (tgt := 41) rfl (decide_eq_true c4) (by decide) ?_
        refine sd_b_go 1 (pc2 := 42) (lv2 := [(0, .inr (.inr (some (331)))), (1, .inl (v1)), (2, .inl (v2)), (3, .inl (v3))]) (st2 := [.inl (0), .inl (v2)]) rfl ?_
        refine sd_b_wk [(0, .inr (.inr (some (331)))), (1, .inl (v1)), (3, .inl (v3))] (List.forall_mem_cons.mpr ⟨rfl, (List.forall_mem_cons.mpr ⟨rfl, (List.forall_mem_cons.mpr ⟨rfl, (fun _ h0 => absurd h0 List.not_mem_nil)⟩)⟩)⟩) ?_
        exact t_X10_signedBy_42 hd (f_X10_signedBy_4 n) ih v1 v3 0 v2 r3.2 _ h
      · rw [if_neg c4] at h
        refine sd_b_zf (c := .eq) rfl (decide_eq_false c4) (by decide) ?_
        refine sd_b_go 1 (pc2 := 33) (lv2 := [(0, .inr (.inr (some (331)))), (1, .inl (v1)), (2, .inl (v2)), (3, .inl (v3))]) (st2 := [.inr (.inr (some (331))), .inl (v2)]) rfl ?_
        refine sd_b_gr (k := 25) sd_o_331 rfl rfl rfl ?_
        refine sd_b_go 1 (pc2 := 37) (lv2 := [(0, .inr (.inr (some (331)))), (1, .inl (v1)), (2, .inl (v2)), (3, .inl (v3))]) (st2 := [.inl (v3), .inr (.inr (some (344))), .inl (v2)]) rfl ?_
        obtain ⟨g5, h⟩ := sd_if h
        refine sd_b_ai (sd_oa sd_o_331 (by decide) (off := 13) (List.mem_of_getElem? (i := 12) rfl)) g5 rfl ?_
        refine sd_b_go 1 (pc2 := 42) (lv2 := [(0, .inr (.inr (some (331)))), (1, .inl (v1)), (2, .inl (v2)), (3, .inl (v3))]) (st2 := [.inl ((r3.2) 344 v3.toNat), .inl (v2)]) rfl ?_
        refine sd_b_wk [(0, .inr (.inr (some (331)))), (1, .inl (v1)), (3, .inl (v3))] (List.forall_mem_cons.mpr ⟨rfl, (List.forall_mem_cons.mpr ⟨rfl, (List.forall_mem_cons.mpr ⟨rfl, (fun _ h0 => absurd h0 List.not_mem_nil)⟩)⟩)⟩) ?_
        exact t_X10_signedBy_42 hd (f_X10_signedBy_4 n) ih v1 v3 ((r3.2) 344 v3.toNat) v2 r3.2 _ h
def f_X10_signedBy (p1 : Int) (M : sd_M) : Option (Int × sd_M) := f_X10_signedBy_4 4000 p1 0 0 M
set_option maxRecDepth 4000 in
theorem t_X10_signedBy {X : Nat → List sd_V → List sd_E → sd_A → Prop} {d : Nat} (hd : 1 ≤ d) (p1 : Int) (M : sd_M) (Rr : Int × sd_M) (h : f_X10_signedBy p1 M = some Rr) : sd_B X d sd_q_X10_signedBy 0 [(0, .inr (.inr (some (331)))), (1, .inl (p1))] [] M (some (.inl Rr.1), sd_rp Rr.2, 0, 0) := by
  unfold f_X10_signedBy at h
  refine sd_b_go 4 (pc2 := 4) (lv2 := [(3, .inl (0)), (2, .inl (0)), (0, .inr (.inr (some (331)))), (1, .inl (p1))]) (st2 := []) rfl ?_
  refine sd_b_wk [(0, .inr (.inr (some (331)))), (1, .inl (p1)), (2, .inl (0)), (3, .inl (0))] (List.forall_mem_cons.mpr ⟨rfl, (List.forall_mem_cons.mpr ⟨rfl, (List.forall_mem_cons.mpr ⟨rfl, (List.forall_mem_cons.mpr ⟨rfl, (fun _ h0 => absurd h0 List.not_mem_nil)⟩)⟩)⟩)⟩) ?_
  exact t_X10_signedBy_4 hd 4000 p1 0 0 M _ h
theorem m_X10_signedBy {X : Nat → List sd_V → List sd_E → sd_A → Prop} {d : Nat} (hd : 2 ≤ d) {p1 : Int} {M : sd_M} {Rr : Int × sd_M} (h : f_X10_signedBy p1 M = some Rr) : sd_Cal X d 218 [.inr (.inr (some (331))), .inl (p1)] (sd_rp M) (some (.inl Rr.1), sd_rp Rr.2, 0, 0) := by
  obtain ⟨d, rfl⟩ : ∃ d2, d = d2 + 1 := ⟨d - 1, by omega⟩
  exact sd_cal_of sd_i_X10_signedBy (Nat.le_of_ble_eq_true rfl) (t_X10_signedBy (by omega) p1 M Rr h)
-- X10_half
def sd_q_X10_half : sd_MI := (yX10_half, cX10_half, 6, (some .int), 10, 1, sd_t_X10_half)
set_option maxRecDepth 4000 in
theorem sd_i_X10_half : sd_mL[219]? = some sd_q_X10_half := rfl
def f_X10_half_94 (k51 : Int → Int → Int → Int → Int → sd_M → Option (Int × sd_M)) (k100 : Int → Int → sd_M → Option (Int × sd_M)) (v1 : Int) (v2 : Int) (v3 : Int) (v4 : Int) (v5 : Int) (M : sd_M) : Option (Int × sd_M) := k51 v1 v2 v3 v4 (sd_w (v5 + (-1))) M
set_option maxRecDepth 4000 in
theorem t_X10_half_94 {X : Nat → List sd_V → List sd_E → sd_A → Prop} {d : Nat} (hd : 3 ≤ d) (k51 : Int → Int → Int → Int → Int → sd_M → Option (Int × sd_M)) (k100 : Int → Int → sd_M → Option (Int × sd_M)) (hk51 : ∀ (v1 : Int) (v2 : Int) (v3 : Int) (v4 : Int) (v5 : Int) (M : sd_M) (Rr : Int × sd_M), k51 v1 v2 v3 v4 v5 M = some Rr → sd_B X d sd_q_X10_half 51 [(0, .inr (.inr (some (331)))), (1, .inl (v1)), (2, .inl (v2)), (3, .inl (v3)), (4, .inl (v4)), (5, .inl (v5))] [] M (some (.inl Rr.1), sd_rp Rr.2, 0, 0)) (hk100 : ∀ (v1 : Int) (v4 : Int) (M : sd_M) (Rr : Int × sd_M), k100 v1 v4 M = some Rr → sd_B X d sd_q_X10_half 100 [(1, .inl (v1)), (4, .inl (v4))] [] M (some (.inl Rr.1), sd_rp Rr.2, 0, 0)) (v1 : Int) (v2 : Int) (v3 : Int) (v4 : Int) (v5 : Int) (M : sd_M) (Rr : Int × sd_M) (h : f_X10_half_94 k51 k100 v1 v2 v3 v4 v5 M = some Rr) : sd_B X d sd_q_X10_half 94 [(0, .inr (.inr (some (331)))), (1, .inl (v1)), (2, .inl (v2)), (3, .inl (v3)), (4, .inl (v4)), (5, .inl (v5))] [] M (some (.inl Rr.1), sd_rp Rr.2, 0, 0) := by
  unfold f_X10_half_94 at h
  refine sd_b_go 2 (pc2 := 51) (lv2 := [(5, .inl (sd_w (v5 + (-1)))), (0, .inr (.inr (some (331)))), (1, .inl (v1)), (2, .inl (v2)), (3, .inl (v3)), (4, .inl (v4))]) (st2 := []) rfl ?_
  refine sd_b_wk [(0, .inr (.inr (some (331)))), (1, .inl (v1)), (2, .inl (v2)), (3, .inl (v3)), (4, .inl (v4)), (5, .inl (sd_w (v5 + (-1))))] (List.forall_mem_cons.mpr ⟨rfl, (List.forall_mem_cons.mpr ⟨rfl, (List.forall_mem_cons.mpr ⟨rfl, (List.forall_mem_cons.mpr ⟨rfl, (List.forall_mem_cons.mpr ⟨rfl, (List.forall_mem_cons.mpr ⟨rfl, (fun _ h0 => absurd h0 List.not_mem_nil)⟩)⟩)⟩)⟩)⟩)⟩) ?_
  exact hk51 v1 v2 v3 v4 (sd_w (v5 + (-1))) M _ h
def f_X10_half_51 (k100 : Int → Int → sd_M → Option (Int × sd_M)) : Nat → Int → Int → Int → Int → Int → sd_M → Option (Int × sd_M)
  | 0, _, _, _, _, _, _ => none
  | n + 1, v1, v2, v3, v4, v5, M => if v5 ≤ 0 then (k100 v1 v4 M) else (if (sd_and (v5) (sd_xor (v2) ((-1)))) = 0 then ((f_X10_signedBy v5 M).bind fun r3 => if (sd_w (2 * r3.1)) ≤ v3 then (f_X10_half_94 (f_X10_half_51 k100 n) k100 v1 v2 v3 v4 v5 r3.2) else ((f_X10_bits v5 r3.2).bind fun r5 => (f_X10_bits v4 r5.2).bind fun r6 => if r6.1 < r5.1 then (f_X10_half_94 (f_X10_half_51 k100 n) k100 v1 v2 v3 v4 v5 r6.2) else (f_X10_half_94 (f_X10_half_51 k100 n) k100 v1 v2 v3 v5 v5 r6.2))) else (f_X10_half_94 (f_X10_half_51 k100 n) k100 v1 v2 v3 v4 v5 M))
set_option maxRecDepth 4000 in
theorem t_X10_half_51 {X : Nat → List sd_V → List sd_E → sd_A → Prop} {d : Nat} (hd : 3 ≤ d) (k100 : Int → Int → sd_M → Option (Int × sd_M)) (hk100 : ∀ (v1 : Int) (v4 : Int) (M : sd_M) (Rr : Int × sd_M), k100 v1 v4 M = some Rr → sd_B X d sd_q_X10_half 100 [(1, .inl (v1)), (4, .inl (v4))] [] M (some (.inl Rr.1), sd_rp Rr.2, 0, 0)) : ∀ (n : Nat) (v1 : Int) (v2 : Int) (v3 : Int) (v4 : Int) (v5 : Int) (M : sd_M) (Rr : Int × sd_M), f_X10_half_51 k100 n v1 v2 v3 v4 v5 M = some Rr → sd_B X d sd_q_X10_half 51 [(0, .inr (.inr (some (331)))), (1, .inl (v1)), (2, .inl (v2)), (3, .inl (v3)), (4, .inl (v4)), (5, .inl (v5))] [] M (some (.inl Rr.1), sd_rp Rr.2, 0, 0) := by
  intro n
  induction n with
  | zero => intro v1 v2 v3 v4 v5 M Rr h; cases h
  | succ n ih =>
    intro v1 v2 v3 v4 v5 M Rr h
    rw [f_X10_half_51] at h
    refine sd_b_go 1 (pc2 := 53) (lv2 := [(0, .inr (.inr (some (331)))), (1, .inl (v1)), (2, .inl (v2)), (3, .inl (v3)), (4, .inl (v4)), (5, .inl (v5))]) (st2 := [.inl (v5)]) rfl ?_
    by_cases c1 : v5 ≤ 0
    · rw [if_pos c1] at h
      refine sd_b_zt (c := .le) (tgt := 100) rfl (decide_eq_true c1) (by decide) ?_
      refine sd_b_wk [(1, .inl (v1)), (4, .inl (v4))] (List.forall_mem_cons.mpr ⟨rfl, (List.forall_mem_cons.mpr ⟨rfl, (fun _ h0 => absurd h0 List.not_mem_nil)⟩)⟩) ?_
      exact hk100 v1 v4 M _ h
    · rw [if_neg c1] at h
      refine sd_b_zf (c := .le) rfl (decide_eq_false c1) (by decide) ?_
      refine sd_b_go 5 (pc2 := 62) (lv2 := [(0, .inr (.inr (some (331)))), (1, .inl (v1)), (2, .inl (v2)), (3, .inl (v3)), (4, .inl (v4)), (5, .inl (v5))]) (st2 := [.inl (sd_and (v5) (sd_xor (v2) ((-1))))]) rfl ?_
      by_cases c2 : (sd_and (v5) (sd_xor (v2) ((-1)))) = 0
      · rw [if_pos c2] at h
        refine sd_b_zf (c := .ne) rfl (decide_eq_false (not_not_intro c2)) (by decide) ?_
        refine sd_b_go 3 (pc2 := 69) (lv2 := [(0, .inr (.inr (some (331)))), (1, .inl (v1)), (2, .inl (v2)), (3, .inl (v3)), (4, .inl (v4)), (5, .inl (v5))]) (st2 := [.inl (v5), .inr (.inr (some (331))), .inl (2)]) rfl ?_
        obtain ⟨r3, e3, h⟩ := sd_bnd h
        refine sd_b_call [.inr (.inr (some (331))), .inl (v5)] [.inl (2)] rfl rfl sd_i_X10_signedBy rfl rfl (Nat.le_of_ble_eq_true rfl) (sd_rc_v sd_o_331) (m_X10_signedBy (by omega) e3) ?_
        refine sd_b_go 2 (pc2 := 74) (lv2 := [(0, .inr (.inr (some (331)))), (1, .inl (v1)), (2, .inl (v2)), (3, .inl (v3)), (4, .inl (v4)), (5, .inl (v5))]) (st2 := [.inl (v3), .inl (sd_w (2 * r3.1))]) rfl ?_
        by_cases c4 : (sd_w (2 * r3.1)) ≤ v3
        · rw [if_pos c4] at h
          refine sd_b_ct (c := .le) (tgt := 94) rfl (decide_eq_true c4) (by decide) ?_
          refine sd_b_wk [(0, .inr (.inr (some (331)))), (1, .inl (v1)), (2, .inl (v2)), (3, .inl (v3)), (4, .inl (v4)), (5, .inl (v5))] (List.forall_mem_cons.mpr ⟨rfl, (List.forall_mem_cons.mpr ⟨rfl, (List.forall_mem_cons.mpr ⟨rfl, (List.forall_mem_cons.mpr ⟨rfl, (List.forall_mem_cons.mpr ⟨rfl, (List.forall_mem_cons.mpr ⟨rfl, (fun _ h0 => absurd h0 List.not_mem_nil)⟩)⟩)⟩)⟩)⟩)⟩) ?_
          exact t_X10_half_94 hd (f_X10_half_51 k100 n) k100 ih hk100 v1 v2 v3 v4 v5 r3.2 _ h
        · rw [if_neg c4] at h
          refine sd_b_cf (c := .le) rfl (decide_eq_false c4) (by decide) ?_
          refine sd_b_go 1 (pc2 := 79) (lv2 := [(0, .inr (.inr (some (331)))), (1, .inl (v1)), (2, .inl (v2)), (3, .inl (v3)), (4, .inl (v4)), (5, .inl (v5))]) (st2 := [.inl (v5)]) rfl ?_
          obtain ⟨r5, e5, h⟩ := sd_bnd h
          refine sd_b_call [.inl (v5)] [] rfl rfl sd_i_X10_bits rfl rfl (Nat.le_of_ble_eq_true rfl) rfl (m_X10_bits (by omega) e5) ?_
          refine sd_b_go 1 (pc2 := 84) (lv2 := [(0, .inr (.inr (some (331)))), (1, .inl (v1)), (2, .inl (v2)), (3, .inl (v3)), (4, .inl (v4)), (5, .inl (v5))]) (st2 := [.inl (v4), .inl (r5.1)]) rfl ?_
          obtain ⟨r6, e6, h⟩ := sd_bnd h
          refine sd_b_call [.inl (v4)] [.inl (r5.1)] rfl rfl sd_i_X10_bits rfl rfl (Nat.le_of_ble_eq_true rfl) rfl (m_X10_bits (by omega) e6) ?_
          by_cases c7 : r6.1 < r5.1
          · rw [if_pos c7] at h
            refine sd_b_ct (c := .gt) (tgt := 94) rfl (decide_eq_true c7) (by decide) ?_
            refine sd_b_wk [(0, .inr (.inr (some (331)))), (1, .inl (v1)), (2, .inl (v2)), (3, .inl (v3)), (4, .inl (v4)), (5, .inl (v5))] (List.forall_mem_cons.mpr ⟨rfl, (List.forall_mem_cons.mpr ⟨rfl, (List.forall_mem_cons.mpr ⟨rfl, (List.forall_mem_cons.mpr ⟨rfl, (List.forall_mem_cons.mpr ⟨rfl, (List.forall_mem_cons.mpr ⟨rfl, (fun _ h0 => absurd h0 List.not_mem_nil)⟩)⟩)⟩)⟩)⟩)⟩) ?_
            exact t_X10_half_94 hd (f_X10_half_51 k100 n) k100 ih hk100 v1 v2 v3 v4 v5 r6.2 _ h
          · rw [if_neg c7] at h
            refine sd_b_cf (c := .gt) rfl (decide_eq_false c7) (by decide) ?_
            refine sd_b_go 2 (pc2 := 94) (lv2 := [(4, .inl (v5)), (0, .inr (.inr (some (331)))), (1, .inl (v1)), (2, .inl (v2)), (3, .inl (v3)), (5, .inl (v5))]) (st2 := []) rfl ?_
            refine sd_b_wk [(0, .inr (.inr (some (331)))), (1, .inl (v1)), (2, .inl (v2)), (3, .inl (v3)), (4, .inl (v5)), (5, .inl (v5))] (List.forall_mem_cons.mpr ⟨rfl, (List.forall_mem_cons.mpr ⟨rfl, (List.forall_mem_cons.mpr ⟨rfl, (List.forall_mem_cons.mpr ⟨rfl, (List.forall_mem_cons.mpr ⟨rfl, (List.forall_mem_cons.mpr ⟨rfl, (fun _ h0 => absurd h0 List.not_mem_nil)⟩)⟩)⟩)⟩)⟩)⟩) ?_
            exact t_X10_half_94 hd (f_X10_half_51 k100 n) k100 ih hk100 v1 v2 v3 v5 v5 r6.2 _ h
      · rw [if_neg c2] at h
        refine sd_b_zt (c := .ne) (tgt := 94) rfl (decide_eq_true c2) (by decide) ?_
        refine sd_b_wk [(0, .inr (.inr (some (331)))), (1, .inl (v1)), (2, .inl (v2)), (3, .inl (v3)), (4, .inl (v4)), (5, .inl (v5))] (List.forall_mem_cons.mpr ⟨rfl, (List.forall_mem_cons.mpr ⟨rfl, (List.forall_mem_cons.mpr ⟨rfl, (List.forall_mem_cons.mpr ⟨rfl, (List.forall_mem_cons.mpr ⟨rfl, (List.forall_mem_cons.mpr ⟨rfl, (fun _ h0 => absurd h0 List.not_mem_nil)⟩)⟩)⟩)⟩)⟩)⟩) ?_
        exact t_X10_half_94 hd (f_X10_half_51 k100 n) k100 ih hk100 v1 v2 v3 v4 v5 M _ h
def f_X10_half_100 (v1 : Int) (v4 : Int) (M : sd_M) : Option (Int × sd_M) := if v1 = 0 then ((f_X10_bits v4 M).bind fun r2 => some (r2.1, r2.2)) else (some (v4, M))
set_option maxRecDepth 4000 in
theorem t_X10_half_100 {X : Nat → List sd_V → List sd_E → sd_A → Prop} {d : Nat} (hd : 3 ≤ d) (v1 : Int) (v4 : Int) (M : sd_M) (Rr : Int × sd_M) (h : f_X10_half_100 v1 v4 M = some Rr) : sd_B X d sd_q_X10_half 100 [(1, .inl (v1)), (4, .inl (v4))] [] M (some (.inl Rr.1), sd_rp Rr.2, 0, 0) := by
  unfold f_X10_half_100 at h
  refine sd_b_go 1 (pc2 := 101) (lv2 := [(1, .inl (v1)), (4, .inl (v4))]) (st2 := [.inl (v1)]) rfl ?_
  by_cases c1 : v1 = 0
  · rw [if_pos c1] at h
    refine sd_b_zf (c := .ne) rfl (decide_eq_false (not_not_intro c1)) (by decide) ?_
    refine sd_b_go 1 (pc2 := 106) (lv2 := [(1, .inl (v1)), (4, .inl (v4))]) (st2 := [.inl (v4)]) rfl ?_
    obtain ⟨r2, e2, h⟩ := sd_bnd h
    refine sd_b_call [.inl (v4)] [] rfl rfl sd_i_X10_bits rfl rfl (Nat.le_of_ble_eq_true rfl) rfl (m_X10_bits (by omega) e2) ?_
    refine sd_b_go 1 (pc2 := 114) (lv2 := [(1, .inl (v1)), (4, .inl (v4))]) (st2 := [.inl (r2.1)]) rfl ?_
    cases h
    exact sd_b_rt rfl rfl rfl
  · rw [if_neg c1] at h
    refine sd_b_zt (c := .ne) (tgt := 112) rfl (decide_eq_true c1) (by decide) ?_
    refine sd_b_go 1 (pc2 := 114) (lv2 := [(1, .inl (v1)), (4, .inl (v4))]) (st2 := [.inl (v4)]) rfl ?_
    cases h
    exact sd_b_rt rfl rfl rfl
def f_X10_half (p1 : Int) (M : sd_M) : Option (Int × sd_M) := (f_X10_isSlip M).bind fun r1 => if r1.1 = 0 then (some ((-1), r1.2)) else ((f_X10_in p1 0 1 r1.2).bind fun r3 => if r3.1 = 0 then (some ((-1), r3.2)) else (if (r3.2 341 60) = 0 then (some ((-2), r3.2)) else ((f_X10_onesAt 1 r3.2).bind fun r6 => (f_X10_signedAll r6.2).bind fun r7 => f_X10_half_51 (f_X10_half_100) 4000 p1 r6.1 r7.1 r6.1 (sd_w (r6.1 - 1)) r7.2)))
set_option maxRecDepth 4000 in
theorem t_X10_half {X : Nat → List sd_V → List sd_E → sd_A → Prop} {d : Nat} (hd : 3 ≤ d) (p1 : Int) (M : sd_M) (Rr : Int × sd_M) (h : f_X10_half p1 M = some Rr) : sd_B X d sd_q_X10_half 0 [(0, .inr (.inr (some (331)))), (1, .inl (p1))] [] M (some (.inl Rr.1), sd_rp Rr.2, 0, 0) := by
  unfold f_X10_half at h
  refine sd_b_go 1 (pc2 := 1) (lv2 := [(0, .inr (.inr (some (331)))), (1, .inl (p1))]) (st2 := [.inr (.inr (some (331)))]) rfl ?_
  obtain ⟨r1, e1, h⟩ := sd_bnd h
  refine sd_b_call [.inr (.inr (some (331)))] [] rfl rfl sd_i_X10_isSlip rfl rfl (Nat.le_of_ble_eq_true rfl) (sd_rc_v sd_o_331) (m_X10_isSlip (by omega) e1) ?_
  by_cases c2 : r1.1 = 0
  · rw [if_pos c2] at h
    refine sd_b_zt (c := .eq) (tgt := 17) rfl (decide_eq_true c2) (by decide) ?_
    refine sd_b_go 1 (pc2 := 18) (lv2 := [(0, .inr (.inr (some (331)))), (1, .inl (p1))]) (st2 := [.inl ((-1))]) rfl ?_
    cases h
    exact sd_b_rt rfl rfl rfl
  · rw [if_neg c2] at h
    refine sd_b_zf (c := .eq) rfl (decide_eq_false c2) (by decide) ?_
    refine sd_b_go 4 (pc2 := 11) (lv2 := [(0, .inr (.inr (some (331)))), (1, .inl (p1))]) (st2 := [.inr (.inl (1)), .inr (.inl (0)), .inr (.inl (p1))]) rfl ?_
    obtain ⟨r3, e3, h⟩ := sd_bnd h
    refine sd_b_call [.inr (.inl (p1)), .inr (.inl (0)), .inr (.inl (1))] [] rfl rfl sd_i_X10_in rfl rfl (Nat.le_of_ble_eq_true rfl) rfl (m_X10_in (by omega) e3) ?_
    by_cases c4 : r3.1 = 0
    · rw [if_pos c4] at h
      refine sd_b_zf (c := .ne) rfl (decide_eq_false (not_not_intro c4)) (by decide) ?_
      refine sd_b_go 1 (pc2 := 18) (lv2 := [(0, .inr (.inr (some (331)))), (1, .inl (p1))]) (st2 := [.inl ((-1))]) rfl ?_
      cases h
      exact sd_b_rt rfl rfl rfl
    · rw [if_neg c4] at h
      refine sd_b_zt (c := .ne) (tgt := 19) rfl (decide_eq_true c4) (by decide) ?_
      refine sd_b_go 1 (pc2 := 20) (lv2 := [(0, .inr (.inr (some (331)))), (1, .inl (p1))]) (st2 := [.inr (.inr (some (331)))]) rfl ?_
      refine sd_b_gr (k := 20) sd_o_331 rfl rfl rfl ?_
      refine sd_b_go 1 (pc2 := 25) (lv2 := [(0, .inr (.inr (some (331)))), (1, .inl (p1))]) (st2 := [.inl (60), .inr (.inr (some (341)))]) rfl ?_
      refine sd_b_ai (i := 60) (sd_oa sd_o_331 (by decide) (off := 10) (List.mem_of_getElem? (i := 9) rfl)) (by decide) rfl ?_
      by_cases c5 : (r3.2 341 60) = 0
      · rw [if_pos c5] at h
        refine sd_b_zf (c := .ne) rfl (decide_eq_false (not_not_intro c5)) (by decide) ?_
        refine sd_b_go 1 (pc2 := 31) (lv2 := [(0, .inr (.inr (some (331)))), (1, .inl (p1))]) (st2 := [.inl ((-2))]) rfl ?_
        cases h
        exact sd_b_rt rfl rfl rfl
      · rw [if_neg c5] at h
        refine sd_b_zt (c := .ne) (tgt := 32) rfl (decide_eq_true c5) (by decide) ?_
        refine sd_b_go 2 (pc2 := 34) (lv2 := [(0, .inr (.inr (some (331)))), (1, .inl (p1))]) (st2 := [.inl (1), .inr (.inr (some (331)))]) rfl ?_
        obtain ⟨r6, e6, h⟩ := sd_bnd h
        refine sd_b_call [.inr (.inr (some (331))), .inl (1)] [] rfl rfl sd_i_X10_onesAt rfl rfl (Nat.le_of_ble_eq_true rfl) (sd_rc_v sd_o_331) (m_X10_onesAt (by omega) e6) ?_
        refine sd_b_go 2 (pc2 := 39) (lv2 := [(2, .inl (r6.1)), (0, .inr (.inr (some (331)))), (1, .inl (p1))]) (st2 := [.inr (.inr (some (331)))]) rfl ?_
        obtain ⟨r7, e7, h⟩ := sd_bnd h
        refine sd_b_call [.inr (.inr (some (331)))] [] rfl rfl sd_i_X10_signedAll rfl rfl (Nat.le_of_ble_eq_true rfl) (sd_rc_v sd_o_331) (m_X10_signedAll (by omega) e7) ?_
        refine sd_b_go 7 (pc2 := 51) (lv2 := [(5, .inl (sd_w (r6.1 - 1))), (4, .inl (r6.1)), (3, .inl (r7.1)), (2, .inl (r6.1)), (0, .inr (.inr (some (331)))), (1, .inl (p1))]) (st2 := []) rfl ?_
        refine sd_b_wk [(0, .inr (.inr (some (331)))), (1, .inl (p1)), (2, .inl (r6.1)), (3, .inl (r7.1)), (4, .inl (r6.1)), (5, .inl (sd_w (r6.1 - 1)))] (List.forall_mem_cons.mpr ⟨rfl, (List.forall_mem_cons.mpr ⟨rfl, (List.forall_mem_cons.mpr ⟨rfl, (List.forall_mem_cons.mpr ⟨rfl, (List.forall_mem_cons.mpr ⟨rfl, (List.forall_mem_cons.mpr ⟨rfl, (fun _ h0 => absurd h0 List.not_mem_nil)⟩)⟩)⟩)⟩)⟩)⟩) ?_
        exact t_X10_half_51 hd (f_X10_half_100) (t_X10_half_100 hd) 4000 p1 r6.1 r7.1 r6.1 (sd_w (r6.1 - 1)) r7.2 _ h
theorem m_X10_half {X : Nat → List sd_V → List sd_E → sd_A → Prop} {d : Nat} (hd : 4 ≤ d) {p1 : Int} {M : sd_M} {Rr : Int × sd_M} (h : f_X10_half p1 M = some Rr) : sd_Cal X d 219 [.inr (.inr (some (331))), .inl (p1)] (sd_rp M) (some (.inl Rr.1), sd_rp Rr.2, 0, 0) := by
  obtain ⟨d, rfl⟩ : ∃ d2, d = d2 + 1 := ⟨d - 1, by omega⟩
  exact sd_cal_of sd_i_X10_half (Nat.le_of_ble_eq_true rfl) (t_X10_half (by omega) p1 M Rr h)
-- X10_agree
def sd_q_X10_agree : sd_MI := (yX10_agree, cX10_agree, 7, (some .int), 10, 2, sd_t_X10_agree)
set_option maxRecDepth 4000 in
theorem sd_i_X10_agree : sd_mL[220]? = some sd_q_X10_agree := rfl
def f_X10_agree_139 (k67 : Int → Int → Int → Int → Int → Int → sd_M → Option (Int × sd_M)) (k145 : Int → Int → sd_M → Option (Int × sd_M)) (v1 : Int) (v2 : Int) (v3 : Int) (v4 : Int) (v5 : Int) (v6 : Int) (M : sd_M) : Option (Int × sd_M) := k67 v1 v2 v3 v4 v5 (sd_w (v6 + (-1))) M
set_option maxRecDepth 4000 in
theorem t_X10_agree_139 {X : Nat → List sd_V → List sd_E → sd_A → Prop} {d : Nat} (hd : 3 ≤ d) (k67 : Int → Int → Int → Int → Int → Int → sd_M → Option (Int × sd_M)) (k145 : Int → Int → sd_M → Option (Int × sd_M)) (hk67 : ∀ (v1 : Int) (v2 : Int) (v3 : Int) (v4 : Int) (v5 : Int) (v6 : Int) (M : sd_M) (Rr : Int × sd_M), k67 v1 v2 v3 v4 v5 v6 M = some Rr → sd_B X d sd_q_X10_agree 67 [(0, .inr (.inr (some (331)))), (1, .inl (v1)), (2, .inl (v2)), (3, .inl (v3)), (4, .inl (v4)), (5, .inl (v5)), (6, .inl (v6))] [] M (some (.inl Rr.1), sd_rp Rr.2, 0, 0)) (hk145 : ∀ (v2 : Int) (v5 : Int) (M : sd_M) (Rr : Int × sd_M), k145 v2 v5 M = some Rr → sd_B X d sd_q_X10_agree 145 [(2, .inl (v2)), (5, .inl (v5))] [] M (some (.inl Rr.1), sd_rp Rr.2, 0, 0)) (v1 : Int) (v2 : Int) (v3 : Int) (v4 : Int) (v5 : Int) (v6 : Int) (M : sd_M) (Rr : Int × sd_M) (h : f_X10_agree_139 k67 k145 v1 v2 v3 v4 v5 v6 M = some Rr) : sd_B X d sd_q_X10_agree 139 [(0, .inr (.inr (some (331)))), (1, .inl (v1)), (2, .inl (v2)), (3, .inl (v3)), (4, .inl (v4)), (5, .inl (v5)), (6, .inl (v6))] [] M (some (.inl Rr.1), sd_rp Rr.2, 0, 0) := by
  unfold f_X10_agree_139 at h
  refine sd_b_go 2 (pc2 := 67) (lv2 := [(6, .inl (sd_w (v6 + (-1)))), (0, .inr (.inr (some (331)))), (1, .inl (v1)), (2, .inl (v2)), (3, .inl (v3)), (4, .inl (v4)), (5, .inl (v5))]) (st2 := []) rfl ?_
  refine sd_b_wk [(0, .inr (.inr (some (331)))), (1, .inl (v1)), (2, .inl (v2)), (3, .inl (v3)), (4, .inl (v4)), (5, .inl (v5)), (6, .inl (sd_w (v6 + (-1))))] (List.forall_mem_cons.mpr ⟨rfl, (List.forall_mem_cons.mpr ⟨rfl, (List.forall_mem_cons.mpr ⟨rfl, (List.forall_mem_cons.mpr ⟨rfl, (List.forall_mem_cons.mpr ⟨rfl, (List.forall_mem_cons.mpr ⟨rfl, (List.forall_mem_cons.mpr ⟨rfl, (fun _ h0 => absurd h0 List.not_mem_nil)⟩)⟩)⟩)⟩)⟩)⟩)⟩) ?_
  exact hk67 v1 v2 v3 v4 v5 (sd_w (v6 + (-1))) M _ h
def f_X10_agree_67 (k145 : Int → Int → sd_M → Option (Int × sd_M)) : Nat → Int → Int → Int → Int → Int → Int → sd_M → Option (Int × sd_M)
  | 0, _, _, _, _, _, _, _ => none
  | n + 1, v1, v2, v3, v4, v5, v6, M => if v6 < 0 then (k145 v2 v5 M) else (if (sd_and (v6) (sd_xor (sd_and (v3) (sd_xor (v1) ((-1)))) ((-1)))) = 0 then ((f_X10_isOf (sd_or (v6) (v1)) (M 341 89) M).bind fun r3 => if r3.1 = 0 then (f_X10_agree_139 (f_X10_agree_67 k145 n) k145 v1 v2 v3 v4 v5 v6 r3.2) else ((f_X10_signedBy (sd_or (v6) (v1)) r3.2).bind fun r5 => if (sd_w (3 * r5.1)) < (sd_w (2 * v4)) then (f_X10_agree_139 (f_X10_agree_67 k145 n) k145 v1 v2 v3 v4 v5 v6 r5.2) else ((f_X10_bits v6 r5.2).bind fun r7 => (f_X10_bits v5 r7.2).bind fun r8 => if r8.1 < r7.1 then (f_X10_agree_139 (f_X10_agree_67 k145 n) k145 v1 v2 v3 v4 v5 v6 r8.2) else (f_X10_agree_139 (f_X10_agree_67 k145 n) k145 v1 v2 v3 v4 v6 v6 r8.2)))) else (f_X10_agree_139 (f_X10_agree_67 k145 n) k145 v1 v2 v3 v4 v5 v6 M))
set_option maxRecDepth 4000 in
theorem t_X10_agree_67 {X : Nat → List sd_V → List sd_E → sd_A → Prop} {d : Nat} (hd : 3 ≤ d) (k145 : Int → Int → sd_M → Option (Int × sd_M)) (hk145 : ∀ (v2 : Int) (v5 : Int) (M : sd_M) (Rr : Int × sd_M), k145 v2 v5 M = some Rr → sd_B X d sd_q_X10_agree 145 [(2, .inl (v2)), (5, .inl (v5))] [] M (some (.inl Rr.1), sd_rp Rr.2, 0, 0)) : ∀ (n : Nat) (v1 : Int) (v2 : Int) (v3 : Int) (v4 : Int) (v5 : Int) (v6 : Int) (M : sd_M) (Rr : Int × sd_M), f_X10_agree_67 k145 n v1 v2 v3 v4 v5 v6 M = some Rr → sd_B X d sd_q_X10_agree 67 [(0, .inr (.inr (some (331)))), (1, .inl (v1)), (2, .inl (v2)), (3, .inl (v3)), (4, .inl (v4)), (5, .inl (v5)), (6, .inl (v6))] [] M (some (.inl Rr.1), sd_rp Rr.2, 0, 0) := by
  intro n
  induction n with
  | zero => intro v1 v2 v3 v4 v5 v6 M Rr h; cases h
  | succ n ih =>
    intro v1 v2 v3 v4 v5 v6 M Rr h
    rw [f_X10_agree_67] at h
    refine sd_b_go 1 (pc2 := 69) (lv2 := [(0, .inr (.inr (some (331)))), (1, .inl (v1)), (2, .inl (v2)), (3, .inl (v3)), (4, .inl (v4)), (5, .inl (v5)), (6, .inl (v6))]) (st2 := [.inl (v6)]) rfl ?_
    by_cases c1 : v6 < 0
    · rw [if_pos c1] at h
      refine sd_b_zt (c := .lt) (tgt := 145) rfl (decide_eq_true c1) (by decide) ?_
      refine sd_b_wk [(2, .inl (v2)), (5, .inl (v5))] (List.forall_mem_cons.mpr ⟨rfl, (List.forall_mem_cons.mpr ⟨rfl, (fun _ h0 => absurd h0 List.not_mem_nil)⟩)⟩) ?_
      exact hk145 v2 v5 M _ h
    · rw [if_neg c1] at h
      refine sd_b_zf (c := .lt) rfl (decide_eq_false c1) (by decide) ?_
      refine sd_b_go 9 (pc2 := 82) (lv2 := [(0, .inr (.inr (some (331)))), (1, .inl (v1)), (2, .inl (v2)), (3, .inl (v3)), (4, .inl (v4)), (5, .inl (v5)), (6, .inl (v6))]) (st2 := [.inl (sd_and (v6) (sd_xor (sd_and (v3) (sd_xor (v1) ((-1)))) ((-1))))]) rfl ?_
      by_cases c2 : (sd_and (v6) (sd_xor (sd_and (v3) (sd_xor (v1) ((-1)))) ((-1)))) = 0
      · rw [if_pos c2] at h
        refine sd_b_zf (c := .ne) rfl (decide_eq_false (not_not_intro c2)) (by decide) ?_
        refine sd_b_go 4 (pc2 := 90) (lv2 := [(0, .inr (.inr (some (331)))), (1, .inl (v1)), (2, .inl (v2)), (3, .inl (v3)), (4, .inl (v4)), (5, .inl (v5)), (6, .inl (v6))]) (st2 := [.inr (.inr (some (331))), .inl (sd_or (v6) (v1))]) rfl ?_
        refine sd_b_gr (k := 20) sd_o_331 rfl rfl rfl ?_
        refine sd_b_go 1 (pc2 := 95) (lv2 := [(0, .inr (.inr (some (331)))), (1, .inl (v1)), (2, .inl (v2)), (3, .inl (v3)), (4, .inl (v4)), (5, .inl (v5)), (6, .inl (v6))]) (st2 := [.inl (89), .inr (.inr (some (341))), .inl (sd_or (v6) (v1))]) rfl ?_
        refine sd_b_ai (i := 89) (sd_oa sd_o_331 (by decide) (off := 10) (List.mem_of_getElem? (i := 9) rfl)) (by decide) rfl ?_
        obtain ⟨r3, e3, h⟩ := sd_bnd h
        refine sd_b_call [.inl (sd_or (v6) (v1)), .inl (M 341 89)] [] rfl rfl sd_i_X10_isOf rfl rfl (Nat.le_of_ble_eq_true rfl) rfl (m_X10_isOf (by omega) e3) ?_
        by_cases c4 : r3.1 = 0
        · rw [if_pos c4] at h
          refine sd_b_zf (c := .ne) rfl (decide_eq_false (not_not_intro c4)) (by decide) ?_
          refine sd_b_go 1 (pc2 := 139) (lv2 := [(0, .inr (.inr (some (331)))), (1, .inl (v1)), (2, .inl (v2)), (3, .inl (v3)), (4, .inl (v4)), (5, .inl (v5)), (6, .inl (v6))]) (st2 := []) rfl ?_
          refine sd_b_wk [(0, .inr (.inr (some (331)))), (1, .inl (v1)), (2, .inl (v2)), (3, .inl (v3)), (4, .inl (v4)), (5, .inl (v5)), (6, .inl (v6))] (List.forall_mem_cons.mpr ⟨rfl, (List.forall_mem_cons.mpr ⟨rfl, (List.forall_mem_cons.mpr ⟨rfl, (List.forall_mem_cons.mpr ⟨rfl, (List.forall_mem_cons.mpr ⟨rfl, (List.forall_mem_cons.mpr ⟨rfl, (List.forall_mem_cons.mpr ⟨rfl, (fun _ h0 => absurd h0 List.not_mem_nil)⟩)⟩)⟩)⟩)⟩)⟩)⟩) ?_
          exact t_X10_agree_139 hd (f_X10_agree_67 k145 n) k145 ih hk145 v1 v2 v3 v4 v5 v6 r3.2 _ h
        · rw [if_neg c4] at h
          refine sd_b_zt (c := .ne) (tgt := 105) rfl (decide_eq_true c4) (by decide) ?_
          refine sd_b_go 5 (pc2 := 111) (lv2 := [(0, .inr (.inr (some (331)))), (1, .inl (v1)), (2, .inl (v2)), (3, .inl (v3)), (4, .inl (v4)), (5, .inl (v5)), (6, .inl (v6))]) (st2 := [.inl (sd_or (v6) (v1)), .inr (.inr (some (331))), .inl (3)]) rfl ?_
          obtain ⟨r5, e5, h⟩ := sd_bnd h
          refine sd_b_call [.inr (.inr (some (331))), .inl (sd_or (v6) (v1))] [.inl (3)] rfl rfl sd_i_X10_signedBy rfl rfl (Nat.le_of_ble_eq_true rfl) (sd_rc_v sd_o_331) (m_X10_signedBy (by omega) e5) ?_
          refine sd_b_go 4 (pc2 := 119) (lv2 := [(0, .inr (.inr (some (331)))), (1, .inl (v1)), (2, .inl (v2)), (3, .inl (v3)), (4, .inl (v4)), (5, .inl (v5)), (6, .inl (v6))]) (st2 := [.inl (sd_w (2 * v4)), .inl (sd_w (3 * r5.1))]) rfl ?_
          by_cases c6 : (sd_w (3 * r5.1)) < (sd_w (2 * v4))
          · rw [if_pos c6] at h
            refine sd_b_ct (c := .lt) (tgt := 139) rfl (decide_eq_true c6) (by decide) ?_
            refine sd_b_wk [(0, .inr (.inr (some (331)))), (1, .inl (v1)), (2, .inl (v2)), (3, .inl (v3)), (4, .inl (v4)), (5, .inl (v5)), (6, .inl (v6))] (List.forall_mem_cons.mpr ⟨rfl, (List.forall_mem_cons.mpr ⟨rfl, (List.forall_mem_cons.mpr ⟨rfl, (List.forall_mem_cons.mpr ⟨rfl, (List.forall_mem_cons.mpr ⟨rfl, (List.forall_mem_cons.mpr ⟨rfl, (List.forall_mem_cons.mpr ⟨rfl, (fun _ h0 => absurd h0 List.not_mem_nil)⟩)⟩)⟩)⟩)⟩)⟩)⟩) ?_
            exact t_X10_agree_139 hd (f_X10_agree_67 k145 n) k145 ih hk145 v1 v2 v3 v4 v5 v6 r5.2 _ h
          · rw [if_neg c6] at h
            refine sd_b_cf (c := .lt) rfl (decide_eq_false c6) (by decide) ?_
            refine sd_b_go 1 (pc2 := 124) (lv2 := [(0, .inr (.inr (some (331)))), (1, .inl (v1)), (2, .inl (v2)), (3, .inl (v3)), (4, .inl (v4)), (5, .inl (v5)), (6, .inl (v6))]) (st2 := [.inl (v6)]) rfl ?_
            obtain ⟨r7, e7, h⟩ := sd_bnd h
            refine sd_b_call [.inl (v6)] [] rfl rfl sd_i_X10_bits rfl rfl (Nat.le_of_ble_eq_true rfl) rfl (m_X10_bits (by omega) e7) ?_
            refine sd_b_go 1 (pc2 := 129) (lv2 := [(0, .inr (.inr (some (331)))), (1, .inl (v1)), (2, .inl (v2)), (3, .inl (v3)), (4, .inl (v4)), (5, .inl (v5)), (6, .inl (v6))]) (st2 := [.inl (v5), .inl (r7.1)]) rfl ?_
            obtain ⟨r8, e8, h⟩ := sd_bnd h
            refine sd_b_call [.inl (v5)] [.inl (r7.1)] rfl rfl sd_i_X10_bits rfl rfl (Nat.le_of_ble_eq_true rfl) rfl (m_X10_bits (by omega) e8) ?_
            by_cases c9 : r8.1 < r7.1
            · rw [if_pos c9] at h
              refine sd_b_ct (c := .gt) (tgt := 139) rfl (decide_eq_true c9) (by decide) ?_
              refine sd_b_wk [(0, .inr (.inr (some (331)))), (1, .inl (v1)), (2, .inl (v2)), (3, .inl (v3)), (4, .inl (v4)), (5, .inl (v5)), (6, .inl (v6))] (List.forall_mem_cons.mpr ⟨rfl, (List.forall_mem_cons.mpr ⟨rfl, (List.forall_mem_cons.mpr ⟨rfl, (List.forall_mem_cons.mpr ⟨rfl, (List.forall_mem_cons.mpr ⟨rfl, (List.forall_mem_cons.mpr ⟨rfl, (List.forall_mem_cons.mpr ⟨rfl, (fun _ h0 => absurd h0 List.not_mem_nil)⟩)⟩)⟩)⟩)⟩)⟩)⟩) ?_
              exact t_X10_agree_139 hd (f_X10_agree_67 k145 n) k145 ih hk145 v1 v2 v3 v4 v5 v6 r8.2 _ h
            · rw [if_neg c9] at h
              refine sd_b_cf (c := .gt) rfl (decide_eq_false c9) (by decide) ?_
              refine sd_b_go 2 (pc2 := 139) (lv2 := [(5, .inl (v6)), (0, .inr (.inr (some (331)))), (1, .inl (v1)), (2, .inl (v2)), (3, .inl (v3)), (4, .inl (v4)), (6, .inl (v6))]) (st2 := []) rfl ?_
              refine sd_b_wk [(0, .inr (.inr (some (331)))), (1, .inl (v1)), (2, .inl (v2)), (3, .inl (v3)), (4, .inl (v4)), (5, .inl (v6)), (6, .inl (v6))] (List.forall_mem_cons.mpr ⟨rfl, (List.forall_mem_cons.mpr ⟨rfl, (List.forall_mem_cons.mpr ⟨rfl, (List.forall_mem_cons.mpr ⟨rfl, (List.forall_mem_cons.mpr ⟨rfl, (List.forall_mem_cons.mpr ⟨rfl, (List.forall_mem_cons.mpr ⟨rfl, (fun _ h0 => absurd h0 List.not_mem_nil)⟩)⟩)⟩)⟩)⟩)⟩)⟩) ?_
              exact t_X10_agree_139 hd (f_X10_agree_67 k145 n) k145 ih hk145 v1 v2 v3 v4 v6 v6 r8.2 _ h
      · rw [if_neg c2] at h
        refine sd_b_zt (c := .ne) (tgt := 139) rfl (decide_eq_true c2) (by decide) ?_
        refine sd_b_wk [(0, .inr (.inr (some (331)))), (1, .inl (v1)), (2, .inl (v2)), (3, .inl (v3)), (4, .inl (v4)), (5, .inl (v5)), (6, .inl (v6))] (List.forall_mem_cons.mpr ⟨rfl, (List.forall_mem_cons.mpr ⟨rfl, (List.forall_mem_cons.mpr ⟨rfl, (List.forall_mem_cons.mpr ⟨rfl, (List.forall_mem_cons.mpr ⟨rfl, (List.forall_mem_cons.mpr ⟨rfl, (List.forall_mem_cons.mpr ⟨rfl, (fun _ h0 => absurd h0 List.not_mem_nil)⟩)⟩)⟩)⟩)⟩)⟩)⟩) ?_
        exact t_X10_agree_139 hd (f_X10_agree_67 k145 n) k145 ih hk145 v1 v2 v3 v4 v5 v6 M _ h
def f_X10_agree_145 (v2 : Int) (v5 : Int) (M : sd_M) : Option (Int × sd_M) := if v2 = 0 then ((f_X10_bits v5 M).bind fun r2 => some (r2.1, r2.2)) else (some (v5, M))
set_option maxRecDepth 4000 in
theorem t_X10_agree_145 {X : Nat → List sd_V → List sd_E → sd_A → Prop} {d : Nat} (hd : 3 ≤ d) (v2 : Int) (v5 : Int) (M : sd_M) (Rr : Int × sd_M) (h : f_X10_agree_145 v2 v5 M = some Rr) : sd_B X d sd_q_X10_agree 145 [(2, .inl (v2)), (5, .inl (v5))] [] M (some (.inl Rr.1), sd_rp Rr.2, 0, 0) := by
  unfold f_X10_agree_145 at h
  refine sd_b_go 1 (pc2 := 146) (lv2 := [(2, .inl (v2)), (5, .inl (v5))]) (st2 := [.inl (v2)]) rfl ?_
  by_cases c1 : v2 = 0
  · rw [if_pos c1] at h
    refine sd_b_zf (c := .ne) rfl (decide_eq_false (not_not_intro c1)) (by decide) ?_
    refine sd_b_go 1 (pc2 := 151) (lv2 := [(2, .inl (v2)), (5, .inl (v5))]) (st2 := [.inl (v5)]) rfl ?_
    obtain ⟨r2, e2, h⟩ := sd_bnd h
    refine sd_b_call [.inl (v5)] [] rfl rfl sd_i_X10_bits rfl rfl (Nat.le_of_ble_eq_true rfl) rfl (m_X10_bits (by omega) e2) ?_
    refine sd_b_go 1 (pc2 := 159) (lv2 := [(2, .inl (v2)), (5, .inl (v5))]) (st2 := [.inl (r2.1)]) rfl ?_
    cases h
    exact sd_b_rt rfl rfl rfl
  · rw [if_neg c1] at h
    refine sd_b_zt (c := .ne) (tgt := 157) rfl (decide_eq_true c1) (by decide) ?_
    refine sd_b_go 1 (pc2 := 159) (lv2 := [(2, .inl (v2)), (5, .inl (v5))]) (st2 := [.inl (v5)]) rfl ?_
    cases h
    exact sd_b_rt rfl rfl rfl
def f_X10_agree (p1 : Int) (p2 : Int) (M : sd_M) : Option (Int × sd_M) := (f_X10_onesAt 1 M).bind fun r1 => (f_X10_isSlip r1.2).bind fun r2 => if r2.1 = 0 then (some ((-1), r2.2)) else (if p1 < 0 then (some ((-1), r2.2)) else (if (sd_and (p1) (sd_xor (r1.1) ((-1)))) = 0 then ((f_X10_in p2 0 1 r2.2).bind fun r6 => if r6.1 = 0 then (some ((-1), r6.2)) else (if (r6.2 341 60) = 0 then (some ((-2), r6.2)) else ((f_X10_signedAll r6.2).bind fun r9 => f_X10_agree_67 (f_X10_agree_145) 4000 p1 p2 r1.1 r9.1 (sd_and (r1.1) (sd_xor (p1) ((-1)))) (sd_and (r1.1) (sd_xor (p1) ((-1)))) r9.2))) else (some ((-1), r2.2))))
set_option maxRecDepth 4000 in
theorem t_X10_agree {X : Nat → List sd_V → List sd_E → sd_A → Prop} {d : Nat} (hd : 3 ≤ d) (p1 : Int) (p2 : Int) (M : sd_M) (Rr : Int × sd_M) (h : f_X10_agree p1 p2 M = some Rr) : sd_B X d sd_q_X10_agree 0 [(0, .inr (.inr (some (331)))), (1, .inl (p1)), (2, .inl (p2))] [] M (some (.inl Rr.1), sd_rp Rr.2, 0, 0) := by
  unfold f_X10_agree at h
  refine sd_b_go 2 (pc2 := 2) (lv2 := [(0, .inr (.inr (some (331)))), (1, .inl (p1)), (2, .inl (p2))]) (st2 := [.inl (1), .inr (.inr (some (331)))]) rfl ?_
  obtain ⟨r1, e1, h⟩ := sd_bnd h
  refine sd_b_call [.inr (.inr (some (331))), .inl (1)] [] rfl rfl sd_i_X10_onesAt rfl rfl (Nat.le_of_ble_eq_true rfl) (sd_rc_v sd_o_331) (m_X10_onesAt (by omega) e1) ?_
  refine sd_b_go 2 (pc2 := 7) (lv2 := [(3, .inl (r1.1)), (0, .inr (.inr (some (331)))), (1, .inl (p1)), (2, .inl (p2))]) (st2 := [.inr (.inr (some (331)))]) rfl ?_
  obtain ⟨r2, e2, h⟩ := sd_bnd h
  refine sd_b_call [.inr (.inr (some (331)))] [] rfl rfl sd_i_X10_isSlip rfl rfl (Nat.le_of_ble_eq_true rfl) (sd_rc_v sd_o_331) (m_X10_isSlip (by omega) e2) ?_
  by_cases c3 : r2.1 = 0
  · rw [if_pos c3] at h
    refine sd_b_zt (c := .eq) (tgt := 35) rfl (decide_eq_true c3) (by decide) ?_
    refine sd_b_go 1 (pc2 := 36) (lv2 := [(3, .inl (r1.1)), (0, .inr (.inr (some (331)))), (1, .inl (p1)), (2, .inl (p2))]) (st2 := [.inl ((-1))]) rfl ?_
    cases h
    exact sd_b_rt rfl rfl rfl
  · rw [if_neg c3] at h
    refine sd_b_zf (c := .eq) rfl (decide_eq_false c3) (by decide) ?_
    refine sd_b_go 1 (pc2 := 14) (lv2 := [(3, .inl (r1.1)), (0, .inr (.inr (some (331)))), (1, .inl (p1)), (2, .inl (p2))]) (st2 := [.inl (p1)]) rfl ?_
    by_cases c4 : p1 < 0
    · rw [if_pos c4] at h
      refine sd_b_zt (c := .lt) (tgt := 35) rfl (decide_eq_true c4) (by decide) ?_
      refine sd_b_go 1 (pc2 := 36) (lv2 := [(3, .inl (r1.1)), (0, .inr (.inr (some (331)))), (1, .inl (p1)), (2, .inl (p2))]) (st2 := [.inl ((-1))]) rfl ?_
      cases h
      exact sd_b_rt rfl rfl rfl
    · rw [if_neg c4] at h
      refine sd_b_zf (c := .lt) rfl (decide_eq_false c4) (by decide) ?_
      refine sd_b_go 5 (pc2 := 22) (lv2 := [(3, .inl (r1.1)), (0, .inr (.inr (some (331)))), (1, .inl (p1)), (2, .inl (p2))]) (st2 := [.inl (sd_and (p1) (sd_xor (r1.1) ((-1))))]) rfl ?_
      by_cases c5 : (sd_and (p1) (sd_xor (r1.1) ((-1)))) = 0
      · rw [if_pos c5] at h
        refine sd_b_zf (c := .ne) rfl (decide_eq_false (not_not_intro c5)) (by decide) ?_
        refine sd_b_go 4 (pc2 := 29) (lv2 := [(3, .inl (r1.1)), (0, .inr (.inr (some (331)))), (1, .inl (p1)), (2, .inl (p2))]) (st2 := [.inr (.inl (1)), .inr (.inl (0)), .inr (.inl (p2))]) rfl ?_
        obtain ⟨r6, e6, h⟩ := sd_bnd h
        refine sd_b_call [.inr (.inl (p2)), .inr (.inl (0)), .inr (.inl (1))] [] rfl rfl sd_i_X10_in rfl rfl (Nat.le_of_ble_eq_true rfl) rfl (m_X10_in (by omega) e6) ?_
        by_cases c7 : r6.1 = 0
        · rw [if_pos c7] at h
          refine sd_b_zf (c := .ne) rfl (decide_eq_false (not_not_intro c7)) (by decide) ?_
          refine sd_b_go 1 (pc2 := 36) (lv2 := [(3, .inl (r1.1)), (0, .inr (.inr (some (331)))), (1, .inl (p1)), (2, .inl (p2))]) (st2 := [.inl ((-1))]) rfl ?_
          cases h
          exact sd_b_rt rfl rfl rfl
        · rw [if_neg c7] at h
          refine sd_b_zt (c := .ne) (tgt := 37) rfl (decide_eq_true c7) (by decide) ?_
          refine sd_b_go 1 (pc2 := 38) (lv2 := [(3, .inl (r1.1)), (0, .inr (.inr (some (331)))), (1, .inl (p1)), (2, .inl (p2))]) (st2 := [.inr (.inr (some (331)))]) rfl ?_
          refine sd_b_gr (k := 20) sd_o_331 rfl rfl rfl ?_
          refine sd_b_go 1 (pc2 := 43) (lv2 := [(3, .inl (r1.1)), (0, .inr (.inr (some (331)))), (1, .inl (p1)), (2, .inl (p2))]) (st2 := [.inl (60), .inr (.inr (some (341)))]) rfl ?_
          refine sd_b_ai (i := 60) (sd_oa sd_o_331 (by decide) (off := 10) (List.mem_of_getElem? (i := 9) rfl)) (by decide) rfl ?_
          by_cases c8 : (r6.2 341 60) = 0
          · rw [if_pos c8] at h
            refine sd_b_zf (c := .ne) rfl (decide_eq_false (not_not_intro c8)) (by decide) ?_
            refine sd_b_go 1 (pc2 := 49) (lv2 := [(3, .inl (r1.1)), (0, .inr (.inr (some (331)))), (1, .inl (p1)), (2, .inl (p2))]) (st2 := [.inl ((-2))]) rfl ?_
            cases h
            exact sd_b_rt rfl rfl rfl
          · rw [if_neg c8] at h
            refine sd_b_zt (c := .ne) (tgt := 50) rfl (decide_eq_true c8) (by decide) ?_
            refine sd_b_go 1 (pc2 := 51) (lv2 := [(3, .inl (r1.1)), (0, .inr (.inr (some (331)))), (1, .inl (p1)), (2, .inl (p2))]) (st2 := [.inr (.inr (some (331)))]) rfl ?_
            obtain ⟨r9, e9, h⟩ := sd_bnd h
            refine sd_b_call [.inr (.inr (some (331)))] [] rfl rfl sd_i_X10_signedAll rfl rfl (Nat.le_of_ble_eq_true rfl) (sd_rc_v sd_o_331) (m_X10_signedAll (by omega) e9) ?_
            refine sd_b_go 9 (pc2 := 67) (lv2 := [(6, .inl (sd_and (r1.1) (sd_xor (p1) ((-1))))), (5, .inl (sd_and (r1.1) (sd_xor (p1) ((-1))))), (4, .inl (r9.1)), (3, .inl (r1.1)), (0, .inr (.inr (some (331)))), (1, .inl (p1)), (2, .inl (p2))]) (st2 := []) rfl ?_
            refine sd_b_wk [(0, .inr (.inr (some (331)))), (1, .inl (p1)), (2, .inl (p2)), (3, .inl (r1.1)), (4, .inl (r9.1)), (5, .inl (sd_and (r1.1) (sd_xor (p1) ((-1))))), (6, .inl (sd_and (r1.1) (sd_xor (p1) ((-1)))))] (List.forall_mem_cons.mpr ⟨rfl, (List.forall_mem_cons.mpr ⟨rfl, (List.forall_mem_cons.mpr ⟨rfl, (List.forall_mem_cons.mpr ⟨rfl, (List.forall_mem_cons.mpr ⟨rfl, (List.forall_mem_cons.mpr ⟨rfl, (List.forall_mem_cons.mpr ⟨rfl, (fun _ h0 => absurd h0 List.not_mem_nil)⟩)⟩)⟩)⟩)⟩)⟩)⟩) ?_
            exact t_X10_agree_67 hd (f_X10_agree_145) (t_X10_agree_145 hd) 4000 p1 p2 r1.1 r9.1 (sd_and (r1.1) (sd_xor (p1) ((-1)))) (sd_and (r1.1) (sd_xor (p1) ((-1)))) r9.2 _ h
      · rw [if_neg c5] at h
        refine sd_b_zt (c := .ne) (tgt := 35) rfl (decide_eq_true c5) (by decide) ?_
        refine sd_b_go 1 (pc2 := 36) (lv2 := [(3, .inl (r1.1)), (0, .inr (.inr (some (331)))), (1, .inl (p1)), (2, .inl (p2))]) (st2 := [.inl ((-1))]) rfl ?_
        cases h
        exact sd_b_rt rfl rfl rfl
theorem m_X10_agree {X : Nat → List sd_V → List sd_E → sd_A → Prop} {d : Nat} (hd : 4 ≤ d) {p1 : Int} {p2 : Int} {M : sd_M} {Rr : Int × sd_M} (h : f_X10_agree p1 p2 M = some Rr) : sd_Cal X d 220 [.inr (.inr (some (331))), .inl (p1), .inl (p2)] (sd_rp M) (some (.inl Rr.1), sd_rp Rr.2, 0, 0) := by
  obtain ⟨d, rfl⟩ : ∃ d2, d = d2 + 1 := ⟨d - 1, by omega⟩
  exact sd_cal_of sd_i_X10_agree (Nat.le_of_ble_eq_true rfl) (t_X10_agree (by omega) p1 p2 M Rr h)
-- X10_waysOf
def sd_q_X10_waysOf : sd_MI := (yX10_waysOf, cX10_waysOf, 3, (some .int), 10, 1, sd_t_X10_waysOf)
set_option maxRecDepth 4000 in
theorem sd_i_X10_waysOf : sd_mL[221]? = some sd_q_X10_waysOf := rfl
def f_X10_waysOf_4 : Nat → Int → Int → Int → sd_M → Option (Int × sd_M)
  | 0, _, _, _, _ => none
  | n + 1, v0, v1, v2, M => if v0 < v2 then (some (v1, M)) else (f_X10_waysOf_4 n v0 (sd_w (v1 * v2)) (sd_w (v2 + 1)) M)
set_option maxRecDepth 4000 in
theorem t_X10_waysOf_4 {X : Nat → List sd_V → List sd_E → sd_A → Prop} {d : Nat} (hd : 0 ≤ d) : ∀ (n : Nat) (v0 : Int) (v1 : Int) (v2 : Int) (M : sd_M) (Rr : Int × sd_M), f_X10_waysOf_4 n v0 v1 v2 M = some Rr → sd_B X d sd_q_X10_waysOf 4 [(0, .inl (v0)), (1, .inl (v1)), (2, .inl (v2))] [] M (some (.inl Rr.1), sd_rp Rr.2, 0, 0) := by
  intro n
  induction n with
  | zero => intro v0 v1 v2 M Rr h; cases h
  | succ n ih =>
    intro v0 v1 v2 M Rr h
    rw [f_X10_waysOf_4] at h
    refine sd_b_go 2 (pc2 := 6) (lv2 := [(0, .inl (v0)), (1, .inl (v1)), (2, .inl (v2))]) (st2 := [.inl (v0), .inl (v2)]) rfl ?_
    by_cases c1 : v0 < v2
    · rw [if_pos c1] at h
      refine sd_b_ct (c := .gt) (tgt := 19) rfl (decide_eq_true c1) (by decide) ?_
      refine sd_b_go 1 (pc2 := 20) (lv2 := [(0, .inl (v0)), (1, .inl (v1)), (2, .inl (v2))]) (st2 := [.inl (v1)]) rfl ?_
      cases h
      exact sd_b_rt rfl rfl rfl
    · rw [if_neg c1] at h
      refine sd_b_cf (c := .gt) rfl (decide_eq_false c1) (by decide) ?_
      refine sd_b_go 6 (pc2 := 4) (lv2 := [(2, .inl (sd_w (v2 + 1))), (1, .inl (sd_w (v1 * v2))), (0, .inl (v0))]) (st2 := []) rfl ?_
      refine sd_b_wk [(0, .inl (v0)), (1, .inl (sd_w (v1 * v2))), (2, .inl (sd_w (v2 + 1)))] (List.forall_mem_cons.mpr ⟨rfl, (List.forall_mem_cons.mpr ⟨rfl, (List.forall_mem_cons.mpr ⟨rfl, (fun _ h0 => absurd h0 List.not_mem_nil)⟩)⟩)⟩) ?_
      exact ih v0 (sd_w (v1 * v2)) (sd_w (v2 + 1)) M _ h
def f_X10_waysOf (p0 : Int) (M : sd_M) : Option (Int × sd_M) := f_X10_waysOf_4 4000 p0 1 2 M
set_option maxRecDepth 4000 in
theorem t_X10_waysOf {X : Nat → List sd_V → List sd_E → sd_A → Prop} {d : Nat} (hd : 0 ≤ d) (p0 : Int) (M : sd_M) (Rr : Int × sd_M) (h : f_X10_waysOf p0 M = some Rr) : sd_B X d sd_q_X10_waysOf 0 [(0, .inl (p0))] [] M (some (.inl Rr.1), sd_rp Rr.2, 0, 0) := by
  unfold f_X10_waysOf at h
  refine sd_b_go 4 (pc2 := 4) (lv2 := [(2, .inl (2)), (1, .inl (1)), (0, .inl (p0))]) (st2 := []) rfl ?_
  refine sd_b_wk [(0, .inl (p0)), (1, .inl (1)), (2, .inl (2))] (List.forall_mem_cons.mpr ⟨rfl, (List.forall_mem_cons.mpr ⟨rfl, (List.forall_mem_cons.mpr ⟨rfl, (fun _ h0 => absurd h0 List.not_mem_nil)⟩)⟩)⟩) ?_
  exact t_X10_waysOf_4 hd 4000 p0 1 2 M _ h
theorem m_X10_waysOf {X : Nat → List sd_V → List sd_E → sd_A → Prop} {d : Nat} (hd : 1 ≤ d) {p0 : Int} {M : sd_M} {Rr : Int × sd_M} (h : f_X10_waysOf p0 M = some Rr) : sd_Cal X d 221 [.inl (p0)] (sd_rp M) (some (.inl Rr.1), sd_rp Rr.2, 0, 0) := by
  obtain ⟨d, rfl⟩ : ∃ d2, d = d2 + 1 := ⟨d - 1, by omega⟩
  exact sd_cal_of sd_i_X10_waysOf (Nat.le_of_ble_eq_true rfl) (t_X10_waysOf (by omega) p0 M Rr h)
