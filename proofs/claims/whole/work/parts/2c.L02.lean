-- X10_isTakeHere
def sd_q_X10_isTakeHere : sd_MI := (yX10_isTakeHere, cX10_isTakeHere, 2, (some .boolean), 10, 0, sd_t_X10_isTakeHere)
set_option maxRecDepth 4000 in
theorem sd_i_X10_isTakeHere : sd_mL[157]? = some sd_q_X10_isTakeHere := rfl
def f_X10_isTakeHere_110 (v1 : Int) (M : sd_M) : Option (Int × sd_M) := if 0 ≤ (M 331 11) ∧ (M 331 11) < 7 then (if 0 ≤ (sd_w (v1 + 3)) ∧ (sd_w (v1 + 3)) < 288 then (if 0 ≤ (sd_s M 335 (sd_w (v1 + 3)).toNat (M 334 (M 331 11).toNat) 331 11) ∧ (sd_s M 335 (sd_w (v1 + 3)).toNat (M 334 (M 331 11).toNat) 331 11) < 6 then (if 0 ≤ (sd_s M 335 (sd_w (v1 + 3)).toNat (M 334 (M 331 11).toNat) 331 11) ∧ (sd_s M 335 (sd_w (v1 + 3)).toNat (M 334 (M 331 11).toNat) 331 11) < 6 then (some (1, sd_s (sd_s M 335 (sd_w (v1 + 3)).toNat (M 334 (M 331 11).toNat)) 336 (sd_s M 335 (sd_w (v1 + 3)).toNat (M 334 (M 331 11).toNat) 331 11).toNat (sd_w (((sd_s M 335 (sd_w (v1 + 3)).toNat (M 334 (M 331 11).toNat)) 336 (sd_s M 335 (sd_w (v1 + 3)).toNat (M 334 (M 331 11).toNat) 331 11).toNat) + 1)))) else none) else none) else none) else none
set_option maxRecDepth 4000 in
theorem t_X10_isTakeHere_110 {X : Nat → List sd_V → List sd_E → sd_A → Prop} {d : Nat} (hd : 9 ≤ d) (v1 : Int) (M : sd_M) (Rr : Int × sd_M) (h : f_X10_isTakeHere_110 v1 M = some Rr) : sd_B X d sd_q_X10_isTakeHere 110 [(0, .inr (.inr (some (331)))), (1, .inl (v1))] [] M (some (.inl Rr.1), sd_rp Rr.2, 0, 0) := by
  unfold f_X10_isTakeHere_110 at h
  refine sd_b_go 1 (pc2 := 111) (lv2 := [(0, .inr (.inr (some (331)))), (1, .inl (v1))]) (st2 := [.inr (.inr (some (331)))]) rfl ?_
  refine sd_b_gr (k := 5) sd_o_331 rfl rfl rfl ?_
  refine sd_b_go 4 (pc2 := 118) (lv2 := [(0, .inr (.inr (some (331)))), (1, .inl (v1))]) (st2 := [.inr (.inr (some (331))), .inl (sd_w (v1 + 3)), .inr (.inr (some (335)))]) rfl ?_
  refine sd_b_gr (k := 4) sd_o_331 rfl rfl rfl ?_
  refine sd_b_go 1 (pc2 := 122) (lv2 := [(0, .inr (.inr (some (331)))), (1, .inl (v1))]) (st2 := [.inr (.inr (some (331))), .inr (.inr (some (334))), .inl (sd_w (v1 + 3)), .inr (.inr (some (335)))]) rfl ?_
  refine sd_b_gi (k := 11) sd_o_331 rfl rfl rfl ?_
  obtain ⟨g1, h⟩ := sd_if h
  refine sd_b_ai (sd_oa sd_o_331 (by decide) (off := 3) (List.mem_of_getElem? (i := 2) rfl)) g1 rfl ?_
  obtain ⟨g2, h⟩ := sd_if h
  refine sd_b_si (sd_oa sd_o_331 (by decide) (off := 4) (List.mem_of_getElem? (i := 3) rfl)) g2 rfl ?_
  refine sd_b_go 1 (pc2 := 128) (lv2 := [(0, .inr (.inr (some (331)))), (1, .inl (v1))]) (st2 := [.inr (.inr (some (331)))]) rfl ?_
  refine sd_b_gr (k := 6) sd_o_331 rfl rfl rfl ?_
  refine sd_b_go 1 (pc2 := 132) (lv2 := [(0, .inr (.inr (some (331)))), (1, .inl (v1))]) (st2 := [.inr (.inr (some (331))), .inr (.inr (some (336)))]) rfl ?_
  refine sd_b_gi (k := 11) sd_o_331 rfl rfl rfl ?_
  refine sd_b_go 1 (pc2 := 136) (lv2 := [(0, .inr (.inr (some (331)))), (1, .inl (v1))]) (st2 := [.inl (sd_s M 335 (sd_w (v1 + 3)).toNat (M 334 (M 331 11).toNat) 331 11), .inr (.inr (some (336))), .inl (sd_s M 335 (sd_w (v1 + 3)).toNat (M 334 (M 331 11).toNat) 331 11), .inr (.inr (some (336)))]) rfl ?_
  obtain ⟨g3, h⟩ := sd_if h
  refine sd_b_ai (sd_oa sd_o_331 (by decide) (off := 5) (List.mem_of_getElem? (i := 4) rfl)) g3 rfl ?_
  refine sd_b_go 2 (pc2 := 139) (lv2 := [(0, .inr (.inr (some (331)))), (1, .inl (v1))]) (st2 := [.inl (sd_w (((sd_s M 335 (sd_w (v1 + 3)).toNat (M 334 (M 331 11).toNat)) 336 (sd_s M 335 (sd_w (v1 + 3)).toNat (M 334 (M 331 11).toNat) 331 11).toNat) + 1)), .inl (sd_s M 335 (sd_w (v1 + 3)).toNat (M 334 (M 331 11).toNat) 331 11), .inr (.inr (some (336)))]) rfl ?_
  obtain ⟨g4, h⟩ := sd_if h
  refine sd_b_si (sd_oa sd_o_331 (by decide) (off := 5) (List.mem_of_getElem? (i := 4) rfl)) g4 rfl ?_
  refine sd_b_go 1 (pc2 := 141) (lv2 := [(0, .inr (.inr (some (331)))), (1, .inl (v1))]) (st2 := [.inl (1)]) rfl ?_
  cases h
  exact sd_b_rt rfl rfl rfl
def f_X10_isTakeHere (M : sd_M) : Option (Int × sd_M) := (f_X10_passWord M).bind fun r1 => if 0 ≤ (r1.2 331 11) ∧ (r1.2 331 11) < 6 then (if 0 ≤ (r1.2 331 11) ∧ (r1.2 331 11) < 7 then (if 0 ≤ (sd_w ((sd_w (48 * (r1.2 331 11))) + (sd_w (4 * ((r1.2) 336 (r1.2 331 11).toNat))))) ∧ (sd_w ((sd_w (48 * (r1.2 331 11))) + (sd_w (4 * ((r1.2) 336 (r1.2 331 11).toNat))))) < 288 then ((f_X10_sum (sd_s r1.2 335 (sd_w ((sd_w (48 * (r1.2 331 11))) + (sd_w (4 * ((r1.2) 336 (r1.2 331 11).toNat))))).toNat ((r1.2) 334 (r1.2 331 11).toNat))).bind fun r5 => if r5.1 = 0 then (some (0, r5.2)) else (if 0 ≤ (r5.2 331 11) ∧ (r5.2 331 11) < 7 then (if 0 ≤ (sd_w ((sd_w ((sd_w (48 * (r1.2 331 11))) + (sd_w (4 * ((r1.2) 336 (r1.2 331 11).toNat))))) + 1)) ∧ (sd_w ((sd_w ((sd_w (48 * (r1.2 331 11))) + (sd_w (4 * ((r1.2) 336 (r1.2 331 11).toNat))))) + 1)) < 288 then (if 0 ≤ (sd_w ((sd_w ((sd_w (48 * (r1.2 331 11))) + (sd_w (4 * ((r1.2) 336 (r1.2 331 11).toNat))))) + 2)) ∧ (sd_w ((sd_w ((sd_w (48 * (r1.2 331 11))) + (sd_w (4 * ((r1.2) 336 (r1.2 331 11).toNat))))) + 2)) < 288 then ((f_X10_takesWord 26982 (sd_s (sd_s r5.2 335 (sd_w ((sd_w ((sd_w (48 * (r1.2 331 11))) + (sd_w (4 * ((r1.2) 336 (r1.2 331 11).toNat))))) + 1)).toNat ((r5.2) 334 (r5.2 331 11).toNat)) 335 (sd_w ((sd_w ((sd_w (48 * (r1.2 331 11))) + (sd_w (4 * ((r1.2) 336 (r1.2 331 11).toNat))))) + 2)).toNat ((-1)))).bind fun r10 => if r10.1 = 0 then (f_X10_isTakeHere_110 (sd_w ((sd_w (48 * (r1.2 331 11))) + (sd_w (4 * ((r1.2) 336 (r1.2 331 11).toNat))))) r10.2) else (if 0 ≤ (r10.2 331 11) ∧ (r10.2 331 11) < 7 then (if 0 ≤ (sd_w ((sd_w ((sd_w (48 * (r1.2 331 11))) + (sd_w (4 * ((r1.2) 336 (r1.2 331 11).toNat))))) + 2)) ∧ (sd_w ((sd_w ((sd_w (48 * (r1.2 331 11))) + (sd_w (4 * ((r1.2) 336 (r1.2 331 11).toNat))))) + 2)) < 288 then ((f_X10_tested (sd_s r10.2 335 (sd_w ((sd_w ((sd_w (48 * (r1.2 331 11))) + (sd_w (4 * ((r1.2) 336 (r1.2 331 11).toNat))))) + 2)).toNat ((r10.2) 334 (r10.2 331 11).toNat))).bind fun r14 => if r14.1 = 0 then (some (0, r14.2)) else (f_X10_isTakeHere_110 (sd_w ((sd_w (48 * (r1.2 331 11))) + (sd_w (4 * ((r1.2) 336 (r1.2 331 11).toNat))))) r14.2)) else none) else none)) else none) else none) else none)) else none) else none) else none
set_option maxRecDepth 4000 in
theorem t_X10_isTakeHere {X : Nat → List sd_V → List sd_E → sd_A → Prop} {d : Nat} (hd : 9 ≤ d) (M : sd_M) (Rr : Int × sd_M) (h : f_X10_isTakeHere M = some Rr) : sd_B X d sd_q_X10_isTakeHere 0 [(0, .inr (.inr (some (331))))] [] M (some (.inl Rr.1), sd_rp Rr.2, 0, 0) := by
  unfold f_X10_isTakeHere at h
  refine sd_b_go 1 (pc2 := 1) (lv2 := [(0, .inr (.inr (some (331))))]) (st2 := [.inr (.inr (some (331)))]) rfl ?_
  obtain ⟨r1, e1, h⟩ := sd_bnd h
  refine sd_b_call [.inr (.inr (some (331)))] [] rfl rfl sd_i_X10_passWord rfl rfl (Nat.le_of_ble_eq_true rfl) (sd_rc_v sd_o_331) (m_X10_passWord (by omega) e1) ?_
  refine sd_b_go 2 (pc2 := 7) (lv2 := [(0, .inr (.inr (some (331))))]) (st2 := [.inr (.inr (some (331))), .inl (48)]) rfl ?_
  refine sd_b_gi (k := 11) sd_o_331 rfl rfl rfl ?_
  refine sd_b_go 3 (pc2 := 13) (lv2 := [(0, .inr (.inr (some (331))))]) (st2 := [.inr (.inr (some (331))), .inl (4), .inl (sd_w (48 * (r1.2 331 11)))]) rfl ?_
  refine sd_b_gr (k := 6) sd_o_331 rfl rfl rfl ?_
  refine sd_b_go 1 (pc2 := 17) (lv2 := [(0, .inr (.inr (some (331))))]) (st2 := [.inr (.inr (some (331))), .inr (.inr (some (336))), .inl (4), .inl (sd_w (48 * (r1.2 331 11)))]) rfl ?_
  refine sd_b_gi (k := 11) sd_o_331 rfl rfl rfl ?_
  obtain ⟨g2, h⟩ := sd_if h
  refine sd_b_ai (sd_oa sd_o_331 (by decide) (off := 5) (List.mem_of_getElem? (i := 4) rfl)) g2 rfl ?_
  refine sd_b_go 4 (pc2 := 25) (lv2 := [(1, .inl (sd_w ((sd_w (48 * (r1.2 331 11))) + (sd_w (4 * ((r1.2) 336 (r1.2 331 11).toNat)))))), (0, .inr (.inr (some (331))))]) (st2 := [.inr (.inr (some (331)))]) rfl ?_
  refine sd_b_gr (k := 5) sd_o_331 rfl rfl rfl ?_
  refine sd_b_go 2 (pc2 := 30) (lv2 := [(1, .inl (sd_w ((sd_w (48 * (r1.2 331 11))) + (sd_w (4 * ((r1.2) 336 (r1.2 331 11).toNat)))))), (0, .inr (.inr (some (331))))]) (st2 := [.inr (.inr (some (331))), .inl (sd_w ((sd_w (48 * (r1.2 331 11))) + (sd_w (4 * ((r1.2) 336 (r1.2 331 11).toNat))))), .inr (.inr (some (335)))]) rfl ?_
  refine sd_b_gr (k := 4) sd_o_331 rfl rfl rfl ?_
  refine sd_b_go 1 (pc2 := 34) (lv2 := [(1, .inl (sd_w ((sd_w (48 * (r1.2 331 11))) + (sd_w (4 * ((r1.2) 336 (r1.2 331 11).toNat)))))), (0, .inr (.inr (some (331))))]) (st2 := [.inr (.inr (some (331))), .inr (.inr (some (334))), .inl (sd_w ((sd_w (48 * (r1.2 331 11))) + (sd_w (4 * ((r1.2) 336 (r1.2 331 11).toNat))))), .inr (.inr (some (335)))]) rfl ?_
  refine sd_b_gi (k := 11) sd_o_331 rfl rfl rfl ?_
  obtain ⟨g3, h⟩ := sd_if h
  refine sd_b_ai (sd_oa sd_o_331 (by decide) (off := 3) (List.mem_of_getElem? (i := 2) rfl)) g3 rfl ?_
  obtain ⟨g4, h⟩ := sd_if h
  refine sd_b_si (sd_oa sd_o_331 (by decide) (off := 4) (List.mem_of_getElem? (i := 3) rfl)) g4 rfl ?_
  refine sd_b_go 1 (pc2 := 40) (lv2 := [(1, .inl (sd_w ((sd_w (48 * (r1.2 331 11))) + (sd_w (4 * ((r1.2) 336 (r1.2 331 11).toNat)))))), (0, .inr (.inr (some (331))))]) (st2 := [.inr (.inr (some (331)))]) rfl ?_
  obtain ⟨r5, e5, h⟩ := sd_bnd h
  refine sd_b_call [.inr (.inr (some (331)))] [] rfl rfl sd_i_X10_sum rfl rfl (Nat.le_of_ble_eq_true rfl) (sd_rc_v sd_o_331) (m_X10_sum (by omega) e5) ?_
  by_cases c6 : r5.1 = 0
  · rw [if_pos c6] at h
    refine sd_b_zf (c := .ne) rfl (decide_eq_false (not_not_intro c6)) (by decide) ?_
    refine sd_b_go 1 (pc2 := 47) (lv2 := [(1, .inl (sd_w ((sd_w (48 * (r1.2 331 11))) + (sd_w (4 * ((r1.2) 336 (r1.2 331 11).toNat)))))), (0, .inr (.inr (some (331))))]) (st2 := [.inl (0)]) rfl ?_
    cases h
    exact sd_b_rt rfl rfl rfl
  · rw [if_neg c6] at h
    refine sd_b_zt (c := .ne) (tgt := 48) rfl (decide_eq_true c6) (by decide) ?_
    refine sd_b_go 1 (pc2 := 49) (lv2 := [(1, .inl (sd_w ((sd_w (48 * (r1.2 331 11))) + (sd_w (4 * ((r1.2) 336 (r1.2 331 11).toNat)))))), (0, .inr (.inr (some (331))))]) (st2 := [.inr (.inr (some (331)))]) rfl ?_
    refine sd_b_gr (k := 5) sd_o_331 rfl rfl rfl ?_
    refine sd_b_go 4 (pc2 := 56) (lv2 := [(1, .inl (sd_w ((sd_w (48 * (r1.2 331 11))) + (sd_w (4 * ((r1.2) 336 (r1.2 331 11).toNat)))))), (0, .inr (.inr (some (331))))]) (st2 := [.inr (.inr (some (331))), .inl (sd_w ((sd_w ((sd_w (48 * (r1.2 331 11))) + (sd_w (4 * ((r1.2) 336 (r1.2 331 11).toNat))))) + 1)), .inr (.inr (some (335)))]) rfl ?_
    refine sd_b_gr (k := 4) sd_o_331 rfl rfl rfl ?_
    refine sd_b_go 1 (pc2 := 60) (lv2 := [(1, .inl (sd_w ((sd_w (48 * (r1.2 331 11))) + (sd_w (4 * ((r1.2) 336 (r1.2 331 11).toNat)))))), (0, .inr (.inr (some (331))))]) (st2 := [.inr (.inr (some (331))), .inr (.inr (some (334))), .inl (sd_w ((sd_w ((sd_w (48 * (r1.2 331 11))) + (sd_w (4 * ((r1.2) 336 (r1.2 331 11).toNat))))) + 1)), .inr (.inr (some (335)))]) rfl ?_
    refine sd_b_gi (k := 11) sd_o_331 rfl rfl rfl ?_
    obtain ⟨g7, h⟩ := sd_if h
    refine sd_b_ai (sd_oa sd_o_331 (by decide) (off := 3) (List.mem_of_getElem? (i := 2) rfl)) g7 rfl ?_
    obtain ⟨g8, h⟩ := sd_if h
    refine sd_b_si (sd_oa sd_o_331 (by decide) (off := 4) (List.mem_of_getElem? (i := 3) rfl)) g8 rfl ?_
    refine sd_b_go 1 (pc2 := 66) (lv2 := [(1, .inl (sd_w ((sd_w (48 * (r1.2 331 11))) + (sd_w (4 * ((r1.2) 336 (r1.2 331 11).toNat)))))), (0, .inr (.inr (some (331))))]) (st2 := [.inr (.inr (some (331)))]) rfl ?_
    refine sd_b_gr (k := 5) sd_o_331 rfl rfl rfl ?_
    refine sd_b_go 4 (pc2 := 73) (lv2 := [(1, .inl (sd_w ((sd_w (48 * (r1.2 331 11))) + (sd_w (4 * ((r1.2) 336 (r1.2 331 11).toNat)))))), (0, .inr (.inr (some (331))))]) (st2 := [.inl ((-1)), .inl (sd_w ((sd_w ((sd_w (48 * (r1.2 331 11))) + (sd_w (4 * ((r1.2) 336 (r1.2 331 11).toNat))))) + 2)), .inr (.inr (some (335)))]) rfl ?_
    obtain ⟨g9, h⟩ := sd_if h
    refine sd_b_si (sd_oa sd_o_331 (by decide) (off := 4) (List.mem_of_getElem? (i := 3) rfl)) g9 rfl ?_
    refine sd_b_go 2 (pc2 := 78) (lv2 := [(1, .inl (sd_w ((sd_w (48 * (r1.2 331 11))) + (sd_w (4 * ((r1.2) 336 (r1.2 331 11).toNat)))))), (0, .inr (.inr (some (331))))]) (st2 := [.inr (.inl (26982)), .inr (.inr (some (331)))]) rfl ?_
    obtain ⟨r10, e10, h⟩ := sd_bnd h
    refine sd_b_call [.inr (.inr (some (331))), .inr (.inl (26982))] [] rfl rfl sd_i_X10_takesWord rfl rfl (Nat.le_of_ble_eq_true rfl) (sd_rc_v sd_o_331) (m_X10_takesWord (by omega) e10) ?_
    by_cases c11 : r10.1 = 0
    · rw [if_pos c11] at h
      refine sd_b_zt (c := .eq) (tgt := 110) rfl (decide_eq_true c11) (by decide) ?_
      refine sd_b_wk [(0, .inr (.inr (some (331)))), (1, .inl (sd_w ((sd_w (48 * (r1.2 331 11))) + (sd_w (4 * ((r1.2) 336 (r1.2 331 11).toNat))))))] (List.forall_mem_cons.mpr ⟨rfl, (List.forall_mem_cons.mpr ⟨rfl, (fun _ h0 => absurd h0 List.not_mem_nil)⟩)⟩) ?_
      exact t_X10_isTakeHere_110 hd (sd_w ((sd_w (48 * (r1.2 331 11))) + (sd_w (4 * ((r1.2) 336 (r1.2 331 11).toNat))))) r10.2 _ h
    · rw [if_neg c11] at h
      refine sd_b_zf (c := .eq) rfl (decide_eq_false c11) (by decide) ?_
      refine sd_b_go 1 (pc2 := 85) (lv2 := [(1, .inl (sd_w ((sd_w (48 * (r1.2 331 11))) + (sd_w (4 * ((r1.2) 336 (r1.2 331 11).toNat)))))), (0, .inr (.inr (some (331))))]) (st2 := [.inr (.inr (some (331)))]) rfl ?_
      refine sd_b_gr (k := 5) sd_o_331 rfl rfl rfl ?_
      refine sd_b_go 4 (pc2 := 92) (lv2 := [(1, .inl (sd_w ((sd_w (48 * (r1.2 331 11))) + (sd_w (4 * ((r1.2) 336 (r1.2 331 11).toNat)))))), (0, .inr (.inr (some (331))))]) (st2 := [.inr (.inr (some (331))), .inl (sd_w ((sd_w ((sd_w (48 * (r1.2 331 11))) + (sd_w (4 * ((r1.2) 336 (r1.2 331 11).toNat))))) + 2)), .inr (.inr (some (335)))]) rfl ?_
      refine sd_b_gr (k := 4) sd_o_331 rfl rfl rfl ?_
      refine sd_b_go 1 (pc2 := 96) (lv2 := [(1, .inl (sd_w ((sd_w (48 * (r1.2 331 11))) + (sd_w (4 * ((r1.2) 336 (r1.2 331 11).toNat)))))), (0, .inr (.inr (some (331))))]) (st2 := [.inr (.inr (some (331))), .inr (.inr (some (334))), .inl (sd_w ((sd_w ((sd_w (48 * (r1.2 331 11))) + (sd_w (4 * ((r1.2) 336 (r1.2 331 11).toNat))))) + 2)), .inr (.inr (some (335)))]) rfl ?_
      refine sd_b_gi (k := 11) sd_o_331 rfl rfl rfl ?_
      obtain ⟨g12, h⟩ := sd_if h
      refine sd_b_ai (sd_oa sd_o_331 (by decide) (off := 3) (List.mem_of_getElem? (i := 2) rfl)) g12 rfl ?_
      obtain ⟨g13, h⟩ := sd_if h
      refine sd_b_si (sd_oa sd_o_331 (by decide) (off := 4) (List.mem_of_getElem? (i := 3) rfl)) g13 rfl ?_
      refine sd_b_go 1 (pc2 := 102) (lv2 := [(1, .inl (sd_w ((sd_w (48 * (r1.2 331 11))) + (sd_w (4 * ((r1.2) 336 (r1.2 331 11).toNat)))))), (0, .inr (.inr (some (331))))]) (st2 := [.inr (.inr (some (331)))]) rfl ?_
      obtain ⟨r14, e14, h⟩ := sd_bnd h
      refine sd_b_call [.inr (.inr (some (331)))] [] rfl rfl sd_i_X10_tested rfl rfl (Nat.le_of_ble_eq_true rfl) (sd_rc_v sd_o_331) (m_X10_tested (by omega) e14) ?_
      by_cases c15 : r14.1 = 0
      · rw [if_pos c15] at h
        refine sd_b_zf (c := .ne) rfl (decide_eq_false (not_not_intro c15)) (by decide) ?_
        refine sd_b_go 1 (pc2 := 109) (lv2 := [(1, .inl (sd_w ((sd_w (48 * (r1.2 331 11))) + (sd_w (4 * ((r1.2) 336 (r1.2 331 11).toNat)))))), (0, .inr (.inr (some (331))))]) (st2 := [.inl (0)]) rfl ?_
        cases h
        exact sd_b_rt rfl rfl rfl
      · rw [if_neg c15] at h
        refine sd_b_zt (c := .ne) (tgt := 110) rfl (decide_eq_true c15) (by decide) ?_
        refine sd_b_wk [(0, .inr (.inr (some (331)))), (1, .inl (sd_w ((sd_w (48 * (r1.2 331 11))) + (sd_w (4 * ((r1.2) 336 (r1.2 331 11).toNat))))))] (List.forall_mem_cons.mpr ⟨rfl, (List.forall_mem_cons.mpr ⟨rfl, (fun _ h0 => absurd h0 List.not_mem_nil)⟩)⟩) ?_
        exact t_X10_isTakeHere_110 hd (sd_w ((sd_w (48 * (r1.2 331 11))) + (sd_w (4 * ((r1.2) 336 (r1.2 331 11).toNat))))) r14.2 _ h
theorem m_X10_isTakeHere {X : Nat → List sd_V → List sd_E → sd_A → Prop} {d : Nat} (hd : 10 ≤ d) {M : sd_M} {Rr : Int × sd_M} (h : f_X10_isTakeHere M = some Rr) : sd_Cal X d 157 [.inr (.inr (some (331)))] (sd_rp M) (some (.inl Rr.1), sd_rp Rr.2, 0, 0) := by
  obtain ⟨d, rfl⟩ : ∃ d2, d = d2 + 1 := ⟨d - 1, by omega⟩
  exact sd_cal_of sd_i_X10_isTakeHere (Nat.le_of_ble_eq_true rfl) (t_X10_isTakeHere (by omega) M Rr h)
-- X10_cellHere
def sd_q_X10_cellHere : sd_MI := (yX10_cellHere, cX10_cellHere, 4, (some .boolean), 10, 3, sd_t_X10_cellHere)
set_option maxRecDepth 4000 in
theorem sd_i_X10_cellHere : sd_mL[158]? = some sd_q_X10_cellHere := rfl
def f_X10_cellHere (p1 : Int) (p2 : Int) (p3 : Int) (M : sd_M) : Option (Int × sd_M) := (f_X10_numberHere p2 p3 M).bind fun r1 => if r1.1 = 0 then (some (0, r1.2)) else (if 0 ≤ p1 ∧ p1 < 58 then (some (1, sd_s r1.2 337 p1.toNat (r1.2 331 10))) else none)
set_option maxRecDepth 4000 in
theorem t_X10_cellHere {X : Nat → List sd_V → List sd_E → sd_A → Prop} {d : Nat} (hd : 2 ≤ d) (p1 : Int) (p2 : Int) (p3 : Int) (M : sd_M) (Rr : Int × sd_M) (h : f_X10_cellHere p1 p2 p3 M = some Rr) : sd_B X d sd_q_X10_cellHere 0 [(0, .inr (.inr (some (331)))), (1, .inl (p1)), (2, .inl (p2)), (3, .inl (p3))] [] M (some (.inl Rr.1), sd_rp Rr.2, 0, 0) := by
  unfold f_X10_cellHere at h
  refine sd_b_go 3 (pc2 := 3) (lv2 := [(0, .inr (.inr (some (331)))), (1, .inl (p1)), (2, .inl (p2)), (3, .inl (p3))]) (st2 := [.inl (p3), .inl (p2), .inr (.inr (some (331)))]) rfl ?_
  obtain ⟨r1, e1, h⟩ := sd_bnd h
  refine sd_b_call [.inr (.inr (some (331))), .inl (p2), .inl (p3)] [] rfl rfl sd_i_X10_numberHere rfl rfl (Nat.le_of_ble_eq_true rfl) (sd_rc_v sd_o_331) (m_X10_numberHere (by omega) e1) ?_
  by_cases c2 : r1.1 = 0
  · rw [if_pos c2] at h
    refine sd_b_zf (c := .ne) rfl (decide_eq_false (not_not_intro c2)) (by decide) ?_
    refine sd_b_go 1 (pc2 := 10) (lv2 := [(0, .inr (.inr (some (331)))), (1, .inl (p1)), (2, .inl (p2)), (3, .inl (p3))]) (st2 := [.inl (0)]) rfl ?_
    cases h
    exact sd_b_rt rfl rfl rfl
  · rw [if_neg c2] at h
    refine sd_b_zt (c := .ne) (tgt := 11) rfl (decide_eq_true c2) (by decide) ?_
    refine sd_b_go 1 (pc2 := 12) (lv2 := [(0, .inr (.inr (some (331)))), (1, .inl (p1)), (2, .inl (p2)), (3, .inl (p3))]) (st2 := [.inr (.inr (some (331)))]) rfl ?_
    refine sd_b_gr (k := 7) sd_o_331 rfl rfl rfl ?_
    refine sd_b_go 2 (pc2 := 17) (lv2 := [(0, .inr (.inr (some (331)))), (1, .inl (p1)), (2, .inl (p2)), (3, .inl (p3))]) (st2 := [.inr (.inr (some (331))), .inl (p1), .inr (.inr (some (337)))]) rfl ?_
    refine sd_b_gi (k := 10) sd_o_331 rfl rfl rfl ?_
    obtain ⟨g3, h⟩ := sd_if h
    refine sd_b_si (sd_oa sd_o_331 (by decide) (off := 6) (List.mem_of_getElem? (i := 5) rfl)) g3 rfl ?_
    refine sd_b_go 1 (pc2 := 22) (lv2 := [(0, .inr (.inr (some (331)))), (1, .inl (p1)), (2, .inl (p2)), (3, .inl (p3))]) (st2 := [.inl (1)]) rfl ?_
    cases h
    exact sd_b_rt rfl rfl rfl
theorem m_X10_cellHere {X : Nat → List sd_V → List sd_E → sd_A → Prop} {d : Nat} (hd : 3 ≤ d) {p1 : Int} {p2 : Int} {p3 : Int} {M : sd_M} {Rr : Int × sd_M} (h : f_X10_cellHere p1 p2 p3 M = some Rr) : sd_Cal X d 158 [.inr (.inr (some (331))), .inl (p1), .inl (p2), .inl (p3)] (sd_rp M) (some (.inl Rr.1), sd_rp Rr.2, 0, 0) := by
  obtain ⟨d, rfl⟩ : ∃ d2, d = d2 + 1 := ⟨d - 1, by omega⟩
  exact sd_cal_of sd_i_X10_cellHere (Nat.le_of_ble_eq_true rfl) (t_X10_cellHere (by omega) p1 p2 p3 M Rr h)
-- X10_isSlipHere
def sd_q_X10_isSlipHere : sd_MI := (yX10_isSlipHere, cX10_isSlipHere, 2, (some .boolean), 10, 1, sd_t_X10_isSlipHere)
set_option maxRecDepth 4000 in
theorem sd_i_X10_isSlipHere : sd_mL[159]? = some sd_q_X10_isSlipHere := rfl
def f_X10_isSlipHere (p1 : Int) (M : sd_M) : Option (Int × sd_M) := if (M 337 0) ≤ 0 then ((f_X10_passWord M).bind fun r2 => (f_X10_cellHere 1 1 999 r2.2).bind fun r3 => if r3.1 = 0 then (some (0, r3.2)) else (some (1, sd_s r3.2 337 0 1))) else ((f_X10_fails 4 p1 M).bind fun r5 => if r5.1 = 0 ∨ r5.1 = 1 then some (r5.1, r5.2) else none)
set_option maxRecDepth 4000 in
theorem t_X10_isSlipHere {X : Nat → List sd_V → List sd_E → sd_A → Prop} {d : Nat} (hd : 3 ≤ d) (p1 : Int) (M : sd_M) (Rr : Int × sd_M) (h : f_X10_isSlipHere p1 M = some Rr) : sd_B X d sd_q_X10_isSlipHere 0 [(0, .inr (.inr (some (331)))), (1, .inl (p1))] [] M (some (.inl Rr.1), sd_rp Rr.2, 0, 0) := by
  unfold f_X10_isSlipHere at h
  refine sd_b_go 1 (pc2 := 1) (lv2 := [(0, .inr (.inr (some (331)))), (1, .inl (p1))]) (st2 := [.inr (.inr (some (331)))]) rfl ?_
  refine sd_b_gr (k := 7) sd_o_331 rfl rfl rfl ?_
  refine sd_b_go 1 (pc2 := 5) (lv2 := [(0, .inr (.inr (some (331)))), (1, .inl (p1))]) (st2 := [.inl (0), .inr (.inr (some (337)))]) rfl ?_
  refine sd_b_ai (i := 0) (sd_oa sd_o_331 (by decide) (off := 6) (List.mem_of_getElem? (i := 5) rfl)) (by decide) rfl ?_
  by_cases c1 : (M 337 0) ≤ 0
  · rw [if_pos c1] at h
    refine sd_b_zt (c := .le) (tgt := 16) rfl (decide_eq_true c1) (by decide) ?_
    refine sd_b_go 1 (pc2 := 17) (lv2 := [(0, .inr (.inr (some (331)))), (1, .inl (p1))]) (st2 := [.inr (.inr (some (331)))]) rfl ?_
    obtain ⟨r2, e2, h⟩ := sd_bnd h
    refine sd_b_call [.inr (.inr (some (331)))] [] rfl rfl sd_i_X10_passWord rfl rfl (Nat.le_of_ble_eq_true rfl) (sd_rc_v sd_o_331) (m_X10_passWord (by omega) e2) ?_
    refine sd_b_go 4 (pc2 := 26) (lv2 := [(0, .inr (.inr (some (331)))), (1, .inl (p1))]) (st2 := [.inl (999), .inl (1), .inl (1), .inr (.inr (some (331)))]) rfl ?_
    obtain ⟨r3, e3, h⟩ := sd_bnd h
    refine sd_b_call [.inr (.inr (some (331))), .inl (1), .inl (1), .inl (999)] [] rfl rfl sd_i_X10_cellHere rfl rfl (Nat.le_of_ble_eq_true rfl) (sd_rc_v sd_o_331) (m_X10_cellHere (by omega) e3) ?_
    by_cases c4 : r3.1 = 0
    · rw [if_pos c4] at h
      refine sd_b_zf (c := .ne) rfl (decide_eq_false (not_not_intro c4)) (by decide) ?_
      refine sd_b_go 1 (pc2 := 33) (lv2 := [(0, .inr (.inr (some (331)))), (1, .inl (p1))]) (st2 := [.inl (0)]) rfl ?_
      cases h
      exact sd_b_rt rfl rfl rfl
    · rw [if_neg c4] at h
      refine sd_b_zt (c := .ne) (tgt := 34) rfl (decide_eq_true c4) (by decide) ?_
      refine sd_b_go 1 (pc2 := 35) (lv2 := [(0, .inr (.inr (some (331)))), (1, .inl (p1))]) (st2 := [.inr (.inr (some (331)))]) rfl ?_
      refine sd_b_gr (k := 7) sd_o_331 rfl rfl rfl ?_
      refine sd_b_go 2 (pc2 := 40) (lv2 := [(0, .inr (.inr (some (331)))), (1, .inl (p1))]) (st2 := [.inl (1), .inl (0), .inr (.inr (some (337)))]) rfl ?_
      refine sd_b_si (i := 0) (sd_oa sd_o_331 (by decide) (off := 6) (List.mem_of_getElem? (i := 5) rfl)) (by decide) rfl ?_
      refine sd_b_go 1 (pc2 := 42) (lv2 := [(0, .inr (.inr (some (331)))), (1, .inl (p1))]) (st2 := [.inl (1)]) rfl ?_
      cases h
      exact sd_b_rt rfl rfl rfl
  · rw [if_neg c1] at h
    refine sd_b_zf (c := .le) rfl (decide_eq_false c1) (by decide) ?_
    refine sd_b_go 3 (pc2 := 12) (lv2 := [(0, .inr (.inr (some (331)))), (1, .inl (p1))]) (st2 := [.inl (p1), .inl (4), .inr (.inr (some (331)))]) rfl ?_
    obtain ⟨r5, e5, h⟩ := sd_bnd h
    refine sd_b_call [.inr (.inr (some (331))), .inl (4), .inl (p1)] [] rfl rfl sd_i_X10_fails rfl rfl (Nat.le_of_ble_eq_true rfl) (sd_rc_v sd_o_331) (m_X10_fails (by omega) e5) ?_
    obtain ⟨g6, h⟩ := sd_if h
    cases h
    exact sd_b_rz g6 rfl rfl
theorem m_X10_isSlipHere {X : Nat → List sd_V → List sd_E → sd_A → Prop} {d : Nat} (hd : 4 ≤ d) {p1 : Int} {M : sd_M} {Rr : Int × sd_M} (h : f_X10_isSlipHere p1 M = some Rr) : sd_Cal X d 159 [.inr (.inr (some (331))), .inl (p1)] (sd_rp M) (some (.inl Rr.1), sd_rp Rr.2, 0, 0) := by
  obtain ⟨d, rfl⟩ : ∃ d2, d = d2 + 1 := ⟨d - 1, by omega⟩
  exact sd_cal_of sd_i_X10_isSlipHere (Nat.le_of_ble_eq_true rfl) (t_X10_isSlipHere (by omega) p1 M Rr h)
-- X10_isOfferHere
def sd_q_X10_isOfferHere : sd_MI := (yX10_isOfferHere, cX10_isOfferHere, 3, (some .boolean), 10, 1, sd_t_X10_isOfferHere)
set_option maxRecDepth 4000 in
theorem sd_i_X10_isOfferHere : sd_mL[160]? = some sd_q_X10_isOfferHere := rfl
def f_X10_isOfferHere (p1 : Int) (M : sd_M) : Option (Int × sd_M) := if (M 337 2) = 9 then ((f_X10_fails 4 p1 M).bind fun r7 => if r7.1 = 0 ∨ r7.1 = 1 then some (r7.1, r7.2) else none) else ((f_X10_passWord M).bind fun r2 => (f_X10_cellHere (sd_w (4 + (r2.2 337 2))) 1 999 r2.2).bind fun r3 => if r3.1 = 0 then (some (0, r3.2)) else ((f_X10_cellHere (sd_w (13 + (r2.2 337 2))) 0 1 r3.2).bind fun r5 => if r5.1 = 0 then (some (0, r5.2)) else (some (1, sd_s r5.2 337 2 (sd_w ((r5.2 337 2) + 1))))))
set_option maxRecDepth 4000 in
theorem t_X10_isOfferHere {X : Nat → List sd_V → List sd_E → sd_A → Prop} {d : Nat} (hd : 3 ≤ d) (p1 : Int) (M : sd_M) (Rr : Int × sd_M) (h : f_X10_isOfferHere p1 M = some Rr) : sd_B X d sd_q_X10_isOfferHere 0 [(0, .inr (.inr (some (331)))), (1, .inl (p1))] [] M (some (.inl Rr.1), sd_rp Rr.2, 0, 0) := by
  unfold f_X10_isOfferHere at h
  refine sd_b_go 1 (pc2 := 1) (lv2 := [(0, .inr (.inr (some (331)))), (1, .inl (p1))]) (st2 := [.inr (.inr (some (331)))]) rfl ?_
  refine sd_b_gr (k := 7) sd_o_331 rfl rfl rfl ?_
  refine sd_b_go 1 (pc2 := 5) (lv2 := [(0, .inr (.inr (some (331)))), (1, .inl (p1))]) (st2 := [.inl (2), .inr (.inr (some (337)))]) rfl ?_
  refine sd_b_ai (i := 2) (sd_oa sd_o_331 (by decide) (off := 6) (List.mem_of_getElem? (i := 5) rfl)) (by decide) rfl ?_
  refine sd_b_go 1 (pc2 := 8) (lv2 := [(0, .inr (.inr (some (331)))), (1, .inl (p1))]) (st2 := [.inl (9), .inl (M 337 2)]) rfl ?_
  by_cases c1 : (M 337 2) = 9
  · rw [if_pos c1] at h
    refine sd_b_cf (c := .ne) rfl (decide_eq_false (not_not_intro c1)) (by decide) ?_
    refine sd_b_go 3 (pc2 := 14) (lv2 := [(0, .inr (.inr (some (331)))), (1, .inl (p1))]) (st2 := [.inl (p1), .inl (4), .inr (.inr (some (331)))]) rfl ?_
    obtain ⟨r7, e7, h⟩ := sd_bnd h
    refine sd_b_call [.inr (.inr (some (331))), .inl (4), .inl (p1)] [] rfl rfl sd_i_X10_fails rfl rfl (Nat.le_of_ble_eq_true rfl) (sd_rc_v sd_o_331) (m_X10_fails (by omega) e7) ?_
    obtain ⟨g8, h⟩ := sd_if h
    cases h
    exact sd_b_rz g8 rfl rfl
  · rw [if_neg c1] at h
    refine sd_b_ct (c := .ne) (tgt := 18) rfl (decide_eq_true c1) (by decide) ?_
    refine sd_b_go 1 (pc2 := 19) (lv2 := [(0, .inr (.inr (some (331)))), (1, .inl (p1))]) (st2 := [.inr (.inr (some (331)))]) rfl ?_
    obtain ⟨r2, e2, h⟩ := sd_bnd h
    refine sd_b_call [.inr (.inr (some (331)))] [] rfl rfl sd_i_X10_passWord rfl rfl (Nat.le_of_ble_eq_true rfl) (sd_rc_v sd_o_331) (m_X10_passWord (by omega) e2) ?_
    refine sd_b_go 1 (pc2 := 23) (lv2 := [(0, .inr (.inr (some (331)))), (1, .inl (p1))]) (st2 := [.inr (.inr (some (331)))]) rfl ?_
    refine sd_b_gr (k := 7) sd_o_331 rfl rfl rfl ?_
    refine sd_b_go 1 (pc2 := 27) (lv2 := [(0, .inr (.inr (some (331)))), (1, .inl (p1))]) (st2 := [.inl (2), .inr (.inr (some (337)))]) rfl ?_
    refine sd_b_ai (i := 2) (sd_oa sd_o_331 (by decide) (off := 6) (List.mem_of_getElem? (i := 5) rfl)) (by decide) rfl ?_
    refine sd_b_go 7 (pc2 := 37) (lv2 := [(2, .inl (r2.2 337 2)), (0, .inr (.inr (some (331)))), (1, .inl (p1))]) (st2 := [.inl (999), .inl (1), .inl (sd_w (4 + (r2.2 337 2))), .inr (.inr (some (331)))]) rfl ?_
    obtain ⟨r3, e3, h⟩ := sd_bnd h
    refine sd_b_call [.inr (.inr (some (331))), .inl (sd_w (4 + (r2.2 337 2))), .inl (1), .inl (999)] [] rfl rfl sd_i_X10_cellHere rfl rfl (Nat.le_of_ble_eq_true rfl) (sd_rc_v sd_o_331) (m_X10_cellHere (by omega) e3) ?_
    by_cases c4 : r3.1 = 0
    · rw [if_pos c4] at h
      refine sd_b_zt (c := .eq) (tgt := 56) rfl (decide_eq_true c4) (by decide) ?_
      refine sd_b_go 1 (pc2 := 57) (lv2 := [(2, .inl (r2.2 337 2)), (0, .inr (.inr (some (331)))), (1, .inl (p1))]) (st2 := [.inl (0)]) rfl ?_
      cases h
      exact sd_b_rt rfl rfl rfl
    · rw [if_neg c4] at h
      refine sd_b_zf (c := .eq) rfl (decide_eq_false c4) (by decide) ?_
      refine sd_b_go 6 (pc2 := 50) (lv2 := [(2, .inl (r2.2 337 2)), (0, .inr (.inr (some (331)))), (1, .inl (p1))]) (st2 := [.inl (1), .inl (0), .inl (sd_w (13 + (r2.2 337 2))), .inr (.inr (some (331)))]) rfl ?_
      obtain ⟨r5, e5, h⟩ := sd_bnd h
      refine sd_b_call [.inr (.inr (some (331))), .inl (sd_w (13 + (r2.2 337 2))), .inl (0), .inl (1)] [] rfl rfl sd_i_X10_cellHere rfl rfl (Nat.le_of_ble_eq_true rfl) (sd_rc_v sd_o_331) (m_X10_cellHere (by omega) e5) ?_
      by_cases c6 : r5.1 = 0
      · rw [if_pos c6] at h
        refine sd_b_zf (c := .ne) rfl (decide_eq_false (not_not_intro c6)) (by decide) ?_
        refine sd_b_go 1 (pc2 := 57) (lv2 := [(2, .inl (r2.2 337 2)), (0, .inr (.inr (some (331)))), (1, .inl (p1))]) (st2 := [.inl (0)]) rfl ?_
        cases h
        exact sd_b_rt rfl rfl rfl
      · rw [if_neg c6] at h
        refine sd_b_zt (c := .ne) (tgt := 58) rfl (decide_eq_true c6) (by decide) ?_
        refine sd_b_go 1 (pc2 := 59) (lv2 := [(2, .inl (r2.2 337 2)), (0, .inr (.inr (some (331)))), (1, .inl (p1))]) (st2 := [.inr (.inr (some (331)))]) rfl ?_
        refine sd_b_gr (k := 7) sd_o_331 rfl rfl rfl ?_
        refine sd_b_go 2 (pc2 := 64) (lv2 := [(2, .inl (r2.2 337 2)), (0, .inr (.inr (some (331)))), (1, .inl (p1))]) (st2 := [.inl (2), .inr (.inr (some (337))), .inl (2), .inr (.inr (some (337)))]) rfl ?_
        refine sd_b_ai (i := 2) (sd_oa sd_o_331 (by decide) (off := 6) (List.mem_of_getElem? (i := 5) rfl)) (by decide) rfl ?_
        refine sd_b_go 2 (pc2 := 67) (lv2 := [(2, .inl (r2.2 337 2)), (0, .inr (.inr (some (331)))), (1, .inl (p1))]) (st2 := [.inl (sd_w ((r5.2 337 2) + 1)), .inl (2), .inr (.inr (some (337)))]) rfl ?_
        refine sd_b_si (i := 2) (sd_oa sd_o_331 (by decide) (off := 6) (List.mem_of_getElem? (i := 5) rfl)) (by decide) rfl ?_
        refine sd_b_go 1 (pc2 := 69) (lv2 := [(2, .inl (r2.2 337 2)), (0, .inr (.inr (some (331)))), (1, .inl (p1))]) (st2 := [.inl (1)]) rfl ?_
        cases h
        exact sd_b_rt rfl rfl rfl
theorem m_X10_isOfferHere {X : Nat → List sd_V → List sd_E → sd_A → Prop} {d : Nat} (hd : 4 ≤ d) {p1 : Int} {M : sd_M} {Rr : Int × sd_M} (h : f_X10_isOfferHere p1 M = some Rr) : sd_Cal X d 160 [.inr (.inr (some (331))), .inl (p1)] (sd_rp M) (some (.inl Rr.1), sd_rp Rr.2, 0, 0) := by
  obtain ⟨d, rfl⟩ : ∃ d2, d = d2 + 1 := ⟨d - 1, by omega⟩
  exact sd_cal_of sd_i_X10_isOfferHere (Nat.le_of_ble_eq_true rfl) (t_X10_isOfferHere (by omega) p1 M Rr h)
-- X10_isNeedsHere
def sd_q_X10_isNeedsHere : sd_MI := (yX10_isNeedsHere, cX10_isNeedsHere, 3, (some .boolean), 10, 1, sd_t_X10_isNeedsHere)
set_option maxRecDepth 4000 in
theorem sd_i_X10_isNeedsHere : sd_mL[161]? = some sd_q_X10_isNeedsHere := rfl
def f_X10_isNeedsHere (p1 : Int) (M : sd_M) : Option (Int × sd_M) := if (M 337 3) = 12 then ((f_X10_fails 4 p1 M).bind fun r9 => if r9.1 = 0 ∨ r9.1 = 1 then some (r9.1, r9.2) else none) else ((f_X10_passWord M).bind fun r2 => (f_X10_cellHere (sd_w (22 + (sd_w (3 * (r2.2 337 3))))) 0 (sd_w ((r2.2 337 2) - 1)) r2.2).bind fun r3 => if r3.1 = 0 then (some (0, r3.2)) else ((f_X10_cellHere (sd_w ((sd_w (22 + (sd_w (3 * (r2.2 337 3))))) + 1)) 0 5 r3.2).bind fun r5 => if r5.1 = 0 then (some (0, r5.2)) else ((f_X10_cellHere (sd_w ((sd_w (22 + (sd_w (3 * (r2.2 337 3))))) + 2)) 0 999 r5.2).bind fun r7 => if r7.1 = 0 then (some (0, r7.2)) else (some (1, sd_s r7.2 337 3 (sd_w ((r7.2 337 3) + 1)))))))
set_option maxRecDepth 4000 in
theorem t_X10_isNeedsHere {X : Nat → List sd_V → List sd_E → sd_A → Prop} {d : Nat} (hd : 3 ≤ d) (p1 : Int) (M : sd_M) (Rr : Int × sd_M) (h : f_X10_isNeedsHere p1 M = some Rr) : sd_B X d sd_q_X10_isNeedsHere 0 [(0, .inr (.inr (some (331)))), (1, .inl (p1))] [] M (some (.inl Rr.1), sd_rp Rr.2, 0, 0) := by
  unfold f_X10_isNeedsHere at h
  refine sd_b_go 1 (pc2 := 1) (lv2 := [(0, .inr (.inr (some (331)))), (1, .inl (p1))]) (st2 := [.inr (.inr (some (331)))]) rfl ?_
  refine sd_b_gr (k := 7) sd_o_331 rfl rfl rfl ?_
  refine sd_b_go 1 (pc2 := 5) (lv2 := [(0, .inr (.inr (some (331)))), (1, .inl (p1))]) (st2 := [.inl (3), .inr (.inr (some (337)))]) rfl ?_
  refine sd_b_ai (i := 3) (sd_oa sd_o_331 (by decide) (off := 6) (List.mem_of_getElem? (i := 5) rfl)) (by decide) rfl ?_
  refine sd_b_go 1 (pc2 := 8) (lv2 := [(0, .inr (.inr (some (331)))), (1, .inl (p1))]) (st2 := [.inl (12), .inl (M 337 3)]) rfl ?_
  by_cases c1 : (M 337 3) = 12
  · rw [if_pos c1] at h
    refine sd_b_cf (c := .ne) rfl (decide_eq_false (not_not_intro c1)) (by decide) ?_
    refine sd_b_go 3 (pc2 := 14) (lv2 := [(0, .inr (.inr (some (331)))), (1, .inl (p1))]) (st2 := [.inl (p1), .inl (4), .inr (.inr (some (331)))]) rfl ?_
    obtain ⟨r9, e9, h⟩ := sd_bnd h
    refine sd_b_call [.inr (.inr (some (331))), .inl (4), .inl (p1)] [] rfl rfl sd_i_X10_fails rfl rfl (Nat.le_of_ble_eq_true rfl) (sd_rc_v sd_o_331) (m_X10_fails (by omega) e9) ?_
    obtain ⟨g10, h⟩ := sd_if h
    cases h
    exact sd_b_rz g10 rfl rfl
  · rw [if_neg c1] at h
    refine sd_b_ct (c := .ne) (tgt := 18) rfl (decide_eq_true c1) (by decide) ?_
    refine sd_b_go 1 (pc2 := 19) (lv2 := [(0, .inr (.inr (some (331)))), (1, .inl (p1))]) (st2 := [.inr (.inr (some (331)))]) rfl ?_
    obtain ⟨r2, e2, h⟩ := sd_bnd h
    refine sd_b_call [.inr (.inr (some (331)))] [] rfl rfl sd_i_X10_passWord rfl rfl (Nat.le_of_ble_eq_true rfl) (sd_rc_v sd_o_331) (m_X10_passWord (by omega) e2) ?_
    refine sd_b_go 3 (pc2 := 26) (lv2 := [(0, .inr (.inr (some (331)))), (1, .inl (p1))]) (st2 := [.inr (.inr (some (331))), .inl (3), .inl (22)]) rfl ?_
    refine sd_b_gr (k := 7) sd_o_331 rfl rfl rfl ?_
    refine sd_b_go 1 (pc2 := 30) (lv2 := [(0, .inr (.inr (some (331)))), (1, .inl (p1))]) (st2 := [.inl (3), .inr (.inr (some (337))), .inl (3), .inl (22)]) rfl ?_
    refine sd_b_ai (i := 3) (sd_oa sd_o_331 (by decide) (off := 6) (List.mem_of_getElem? (i := 5) rfl)) (by decide) rfl ?_
    refine sd_b_go 7 (pc2 := 38) (lv2 := [(2, .inl (sd_w (22 + (sd_w (3 * (r2.2 337 3)))))), (0, .inr (.inr (some (331)))), (1, .inl (p1))]) (st2 := [.inr (.inr (some (331))), .inl (0), .inl (sd_w (22 + (sd_w (3 * (r2.2 337 3))))), .inr (.inr (some (331)))]) rfl ?_
    refine sd_b_gr (k := 7) sd_o_331 rfl rfl rfl ?_
    refine sd_b_go 1 (pc2 := 42) (lv2 := [(2, .inl (sd_w (22 + (sd_w (3 * (r2.2 337 3)))))), (0, .inr (.inr (some (331)))), (1, .inl (p1))]) (st2 := [.inl (2), .inr (.inr (some (337))), .inl (0), .inl (sd_w (22 + (sd_w (3 * (r2.2 337 3))))), .inr (.inr (some (331)))]) rfl ?_
    refine sd_b_ai (i := 2) (sd_oa sd_o_331 (by decide) (off := 6) (List.mem_of_getElem? (i := 5) rfl)) (by decide) rfl ?_
    refine sd_b_go 2 (pc2 := 45) (lv2 := [(2, .inl (sd_w (22 + (sd_w (3 * (r2.2 337 3)))))), (0, .inr (.inr (some (331)))), (1, .inl (p1))]) (st2 := [.inl (sd_w ((r2.2 337 2) - 1)), .inl (0), .inl (sd_w (22 + (sd_w (3 * (r2.2 337 3))))), .inr (.inr (some (331)))]) rfl ?_
    obtain ⟨r3, e3, h⟩ := sd_bnd h
    refine sd_b_call [.inr (.inr (some (331))), .inl (sd_w (22 + (sd_w (3 * (r2.2 337 3))))), .inl (0), .inl (sd_w ((r2.2 337 2) - 1))] [] rfl rfl sd_i_X10_cellHere rfl rfl (Nat.le_of_ble_eq_true rfl) (sd_rc_v sd_o_331) (m_X10_cellHere (by omega) e3) ?_
    by_cases c4 : r3.1 = 0
    · rw [if_pos c4] at h
      refine sd_b_zt (c := .eq) (tgt := 77) rfl (decide_eq_true c4) (by decide) ?_
      refine sd_b_go 1 (pc2 := 78) (lv2 := [(2, .inl (sd_w (22 + (sd_w (3 * (r2.2 337 3)))))), (0, .inr (.inr (some (331)))), (1, .inl (p1))]) (st2 := [.inl (0)]) rfl ?_
      cases h
      exact sd_b_rt rfl rfl rfl
    · rw [if_neg c4] at h
      refine sd_b_zf (c := .eq) rfl (decide_eq_false c4) (by decide) ?_
      refine sd_b_go 6 (pc2 := 57) (lv2 := [(2, .inl (sd_w (22 + (sd_w (3 * (r2.2 337 3)))))), (0, .inr (.inr (some (331)))), (1, .inl (p1))]) (st2 := [.inl (5), .inl (0), .inl (sd_w ((sd_w (22 + (sd_w (3 * (r2.2 337 3))))) + 1)), .inr (.inr (some (331)))]) rfl ?_
      obtain ⟨r5, e5, h⟩ := sd_bnd h
      refine sd_b_call [.inr (.inr (some (331))), .inl (sd_w ((sd_w (22 + (sd_w (3 * (r2.2 337 3))))) + 1)), .inl (0), .inl (5)] [] rfl rfl sd_i_X10_cellHere rfl rfl (Nat.le_of_ble_eq_true rfl) (sd_rc_v sd_o_331) (m_X10_cellHere (by omega) e5) ?_
      by_cases c6 : r5.1 = 0
      · rw [if_pos c6] at h
        refine sd_b_zt (c := .eq) (tgt := 77) rfl (decide_eq_true c6) (by decide) ?_
        refine sd_b_go 1 (pc2 := 78) (lv2 := [(2, .inl (sd_w (22 + (sd_w (3 * (r2.2 337 3)))))), (0, .inr (.inr (some (331)))), (1, .inl (p1))]) (st2 := [.inl (0)]) rfl ?_
        cases h
        exact sd_b_rt rfl rfl rfl
      · rw [if_neg c6] at h
        refine sd_b_zf (c := .eq) rfl (decide_eq_false c6) (by decide) ?_
        refine sd_b_go 6 (pc2 := 71) (lv2 := [(2, .inl (sd_w (22 + (sd_w (3 * (r2.2 337 3)))))), (0, .inr (.inr (some (331)))), (1, .inl (p1))]) (st2 := [.inl (999), .inl (0), .inl (sd_w ((sd_w (22 + (sd_w (3 * (r2.2 337 3))))) + 2)), .inr (.inr (some (331)))]) rfl ?_
        obtain ⟨r7, e7, h⟩ := sd_bnd h
        refine sd_b_call [.inr (.inr (some (331))), .inl (sd_w ((sd_w (22 + (sd_w (3 * (r2.2 337 3))))) + 2)), .inl (0), .inl (999)] [] rfl rfl sd_i_X10_cellHere rfl rfl (Nat.le_of_ble_eq_true rfl) (sd_rc_v sd_o_331) (m_X10_cellHere (by omega) e7) ?_
        by_cases c8 : r7.1 = 0
        · rw [if_pos c8] at h
          refine sd_b_zf (c := .ne) rfl (decide_eq_false (not_not_intro c8)) (by decide) ?_
          refine sd_b_go 1 (pc2 := 78) (lv2 := [(2, .inl (sd_w (22 + (sd_w (3 * (r2.2 337 3)))))), (0, .inr (.inr (some (331)))), (1, .inl (p1))]) (st2 := [.inl (0)]) rfl ?_
          cases h
          exact sd_b_rt rfl rfl rfl
        · rw [if_neg c8] at h
          refine sd_b_zt (c := .ne) (tgt := 79) rfl (decide_eq_true c8) (by decide) ?_
          refine sd_b_go 1 (pc2 := 80) (lv2 := [(2, .inl (sd_w (22 + (sd_w (3 * (r2.2 337 3)))))), (0, .inr (.inr (some (331)))), (1, .inl (p1))]) (st2 := [.inr (.inr (some (331)))]) rfl ?_
          refine sd_b_gr (k := 7) sd_o_331 rfl rfl rfl ?_
          refine sd_b_go 2 (pc2 := 85) (lv2 := [(2, .inl (sd_w (22 + (sd_w (3 * (r2.2 337 3)))))), (0, .inr (.inr (some (331)))), (1, .inl (p1))]) (st2 := [.inl (3), .inr (.inr (some (337))), .inl (3), .inr (.inr (some (337)))]) rfl ?_
          refine sd_b_ai (i := 3) (sd_oa sd_o_331 (by decide) (off := 6) (List.mem_of_getElem? (i := 5) rfl)) (by decide) rfl ?_
          refine sd_b_go 2 (pc2 := 88) (lv2 := [(2, .inl (sd_w (22 + (sd_w (3 * (r2.2 337 3)))))), (0, .inr (.inr (some (331)))), (1, .inl (p1))]) (st2 := [.inl (sd_w ((r7.2 337 3) + 1)), .inl (3), .inr (.inr (some (337)))]) rfl ?_
          refine sd_b_si (i := 3) (sd_oa sd_o_331 (by decide) (off := 6) (List.mem_of_getElem? (i := 5) rfl)) (by decide) rfl ?_
          refine sd_b_go 1 (pc2 := 90) (lv2 := [(2, .inl (sd_w (22 + (sd_w (3 * (r2.2 337 3)))))), (0, .inr (.inr (some (331)))), (1, .inl (p1))]) (st2 := [.inl (1)]) rfl ?_
          cases h
          exact sd_b_rt rfl rfl rfl
theorem m_X10_isNeedsHere {X : Nat → List sd_V → List sd_E → sd_A → Prop} {d : Nat} (hd : 4 ≤ d) {p1 : Int} {M : sd_M} {Rr : Int × sd_M} (h : f_X10_isNeedsHere p1 M = some Rr) : sd_Cal X d 161 [.inr (.inr (some (331))), .inl (p1)] (sd_rp M) (some (.inl Rr.1), sd_rp Rr.2, 0, 0) := by
  obtain ⟨d, rfl⟩ : ∃ d2, d = d2 + 1 := ⟨d - 1, by omega⟩
  exact sd_cal_of sd_i_X10_isNeedsHere (Nat.le_of_ble_eq_true rfl) (t_X10_isNeedsHere (by omega) p1 M Rr h)
-- X10_slipLineHere
def sd_q_X10_slipLineHere : sd_MI := (yX10_slipLineHere, cX10_slipLineHere, 2, (some .boolean), 10, 1, sd_t_X10_slipLineHere)
set_option maxRecDepth 4000 in
theorem sd_i_X10_slipLineHere : sd_mL[162]? = some sd_q_X10_slipLineHere := rfl
def f_X10_slipLineHere (p1 : Int) (M : sd_M) : Option (Int × sd_M) := (f_X10_isWord 1936484720 M).bind fun r1 => if r1.1 = 0 then (if (r1.2 337 0) = 0 then ((f_X10_fails 4 p1 r1.2).bind fun r10 => if r10.1 = 0 ∨ r10.1 = 1 then some (r10.1, r10.2) else none) else ((f_X10_isWord 478459356530 r1.2).bind fun r4 => if r4.1 = 0 then ((f_X10_isNeedsHere p1 r4.2).bind fun r6 => if r6.1 = 0 ∨ r6.1 = 1 then some (r6.1, r6.2) else none) else ((f_X10_isOfferHere p1 r4.2).bind fun r8 => if r8.1 = 0 ∨ r8.1 = 1 then some (r8.1, r8.2) else none))) else ((f_X10_isSlipHere p1 r1.2).bind fun r12 => if r12.1 = 0 ∨ r12.1 = 1 then some (r12.1, r12.2) else none)
set_option maxRecDepth 4000 in
theorem t_X10_slipLineHere {X : Nat → List sd_V → List sd_E → sd_A → Prop} {d : Nat} (hd : 4 ≤ d) (p1 : Int) (M : sd_M) (Rr : Int × sd_M) (h : f_X10_slipLineHere p1 M = some Rr) : sd_B X d sd_q_X10_slipLineHere 0 [(0, .inr (.inr (some (331)))), (1, .inl (p1))] [] M (some (.inl Rr.1), sd_rp Rr.2, 0, 0) := by
  unfold f_X10_slipLineHere at h
  refine sd_b_go 2 (pc2 := 4) (lv2 := [(0, .inr (.inr (some (331)))), (1, .inl (p1))]) (st2 := [.inr (.inl (1936484720)), .inr (.inr (some (331)))]) rfl ?_
  obtain ⟨r1, e1, h⟩ := sd_bnd h
  refine sd_b_call [.inr (.inr (some (331))), .inr (.inl (1936484720))] [] rfl rfl sd_i_X10_isWord rfl rfl (Nat.le_of_ble_eq_true rfl) (sd_rc_v sd_o_331) (m_X10_isWord (by omega) e1) ?_
  by_cases c2 : r1.1 = 0
  · rw [if_pos c2] at h
    refine sd_b_zt (c := .eq) (tgt := 16) rfl (decide_eq_true c2) (by decide) ?_
    refine sd_b_go 1 (pc2 := 17) (lv2 := [(0, .inr (.inr (some (331)))), (1, .inl (p1))]) (st2 := [.inr (.inr (some (331)))]) rfl ?_
    refine sd_b_gr (k := 7) sd_o_331 rfl rfl rfl ?_
    refine sd_b_go 1 (pc2 := 21) (lv2 := [(0, .inr (.inr (some (331)))), (1, .inl (p1))]) (st2 := [.inl (0), .inr (.inr (some (337)))]) rfl ?_
    refine sd_b_ai (i := 0) (sd_oa sd_o_331 (by decide) (off := 6) (List.mem_of_getElem? (i := 5) rfl)) (by decide) rfl ?_
    by_cases c3 : (r1.2 337 0) = 0
    · rw [if_pos c3] at h
      refine sd_b_zf (c := .ne) rfl (decide_eq_false (not_not_intro c3)) (by decide) ?_
      refine sd_b_go 3 (pc2 := 28) (lv2 := [(0, .inr (.inr (some (331)))), (1, .inl (p1))]) (st2 := [.inl (p1), .inl (4), .inr (.inr (some (331)))]) rfl ?_
      obtain ⟨r10, e10, h⟩ := sd_bnd h
      refine sd_b_call [.inr (.inr (some (331))), .inl (4), .inl (p1)] [] rfl rfl sd_i_X10_fails rfl rfl (Nat.le_of_ble_eq_true rfl) (sd_rc_v sd_o_331) (m_X10_fails (by omega) e10) ?_
      obtain ⟨g11, h⟩ := sd_if h
      cases h
      exact sd_b_rz g11 rfl rfl
    · rw [if_neg c3] at h
      refine sd_b_zt (c := .ne) (tgt := 32) rfl (decide_eq_true c3) (by decide) ?_
      refine sd_b_go 2 (pc2 := 36) (lv2 := [(0, .inr (.inr (some (331)))), (1, .inl (p1))]) (st2 := [.inr (.inl (478459356530)), .inr (.inr (some (331)))]) rfl ?_
      obtain ⟨r4, e4, h⟩ := sd_bnd h
      refine sd_b_call [.inr (.inr (some (331))), .inr (.inl (478459356530))] [] rfl rfl sd_i_X10_isWord rfl rfl (Nat.le_of_ble_eq_true rfl) (sd_rc_v sd_o_331) (m_X10_isWord (by omega) e4) ?_
      by_cases c5 : r4.1 = 0
      · rw [if_pos c5] at h
        refine sd_b_zt (c := .eq) (tgt := 50) rfl (decide_eq_true c5) (by decide) ?_
        refine sd_b_go 2 (pc2 := 52) (lv2 := [(0, .inr (.inr (some (331)))), (1, .inl (p1))]) (st2 := [.inl (p1), .inr (.inr (some (331)))]) rfl ?_
        obtain ⟨r6, e6, h⟩ := sd_bnd h
        refine sd_b_call [.inr (.inr (some (331))), .inl (p1)] [] rfl rfl sd_i_X10_isNeedsHere rfl rfl (Nat.le_of_ble_eq_true rfl) (sd_rc_v sd_o_331) (m_X10_isNeedsHere (by omega) e6) ?_
        obtain ⟨g7, h⟩ := sd_if h
        cases h
        exact sd_b_rz g7 rfl rfl
      · rw [if_neg c5] at h
        refine sd_b_zf (c := .eq) rfl (decide_eq_false c5) (by decide) ?_
        refine sd_b_go 2 (pc2 := 44) (lv2 := [(0, .inr (.inr (some (331)))), (1, .inl (p1))]) (st2 := [.inl (p1), .inr (.inr (some (331)))]) rfl ?_
        obtain ⟨r8, e8, h⟩ := sd_bnd h
        refine sd_b_call [.inr (.inr (some (331))), .inl (p1)] [] rfl rfl sd_i_X10_isOfferHere rfl rfl (Nat.le_of_ble_eq_true rfl) (sd_rc_v sd_o_331) (m_X10_isOfferHere (by omega) e8) ?_
        refine sd_b_go 1 (pc2 := 55) (lv2 := [(0, .inr (.inr (some (331)))), (1, .inl (p1))]) (st2 := [.inl (r8.1)]) rfl ?_
        obtain ⟨g9, h⟩ := sd_if h
        cases h
        exact sd_b_rz g9 rfl rfl
  · rw [if_neg c2] at h
    refine sd_b_zf (c := .eq) rfl (decide_eq_false c2) (by decide) ?_
    refine sd_b_go 2 (pc2 := 12) (lv2 := [(0, .inr (.inr (some (331)))), (1, .inl (p1))]) (st2 := [.inl (p1), .inr (.inr (some (331)))]) rfl ?_
    obtain ⟨r12, e12, h⟩ := sd_bnd h
    refine sd_b_call [.inr (.inr (some (331))), .inl (p1)] [] rfl rfl sd_i_X10_isSlipHere rfl rfl (Nat.le_of_ble_eq_true rfl) (sd_rc_v sd_o_331) (m_X10_isSlipHere (by omega) e12) ?_
    obtain ⟨g13, h⟩ := sd_if h
    cases h
    exact sd_b_rz g13 rfl rfl
theorem m_X10_slipLineHere {X : Nat → List sd_V → List sd_E → sd_A → Prop} {d : Nat} (hd : 5 ≤ d) {p1 : Int} {M : sd_M} {Rr : Int × sd_M} (h : f_X10_slipLineHere p1 M = some Rr) : sd_Cal X d 162 [.inr (.inr (some (331))), .inl (p1)] (sd_rp M) (some (.inl Rr.1), sd_rp Rr.2, 0, 0) := by
  obtain ⟨d, rfl⟩ : ∃ d2, d = d2 + 1 := ⟨d - 1, by omega⟩
  exact sd_cal_of sd_i_X10_slipLineHere (Nat.le_of_ble_eq_true rfl) (t_X10_slipLineHere (by omega) p1 M Rr h)
-- X10_isSlipWord
def sd_q_X10_isSlipWord : sd_MI := (yX10_isSlipWord, cX10_isSlipWord, 1, (some .boolean), 10, 0, sd_t_X10_isSlipWord)
set_option maxRecDepth 4000 in
theorem sd_i_X10_isSlipWord : sd_mL[163]? = some sd_q_X10_isSlipWord := rfl
def f_X10_isSlipWord (M : sd_M) : Option (Int × sd_M) := (f_X10_isWord 1936484720 M).bind fun r1 => if r1.1 = 0 then ((f_X10_isWord 478459356530 r1.2).bind fun r3 => if r3.1 = 0 then ((f_X10_isWord 474147546227 r3.2).bind fun r5 => if r5.1 = 0 then (some (0, r5.2)) else (some (1, r5.2))) else (some (1, r3.2))) else (some (1, r1.2))
set_option maxRecDepth 4000 in
theorem t_X10_isSlipWord {X : Nat → List sd_V → List sd_E → sd_A → Prop} {d : Nat} (hd : 2 ≤ d) (M : sd_M) (Rr : Int × sd_M) (h : f_X10_isSlipWord M = some Rr) : sd_B X d sd_q_X10_isSlipWord 0 [(0, .inr (.inr (some (331))))] [] M (some (.inl Rr.1), sd_rp Rr.2, 0, 0) := by
  unfold f_X10_isSlipWord at h
  refine sd_b_go 2 (pc2 := 4) (lv2 := [(0, .inr (.inr (some (331))))]) (st2 := [.inr (.inl (1936484720)), .inr (.inr (some (331)))]) rfl ?_
  obtain ⟨r1, e1, h⟩ := sd_bnd h
  refine sd_b_call [.inr (.inr (some (331))), .inr (.inl (1936484720))] [] rfl rfl sd_i_X10_isWord rfl rfl (Nat.le_of_ble_eq_true rfl) (sd_rc_v sd_o_331) (m_X10_isWord (by omega) e1) ?_
  by_cases c2 : r1.1 = 0
  · rw [if_pos c2] at h
    refine sd_b_zf (c := .ne) rfl (decide_eq_false (not_not_intro c2)) (by decide) ?_
    refine sd_b_go 2 (pc2 := 14) (lv2 := [(0, .inr (.inr (some (331))))]) (st2 := [.inr (.inl (478459356530)), .inr (.inr (some (331)))]) rfl ?_
    obtain ⟨r3, e3, h⟩ := sd_bnd h
    refine sd_b_call [.inr (.inr (some (331))), .inr (.inl (478459356530))] [] rfl rfl sd_i_X10_isWord rfl rfl (Nat.le_of_ble_eq_true rfl) (sd_rc_v sd_o_331) (m_X10_isWord (by omega) e3) ?_
    by_cases c4 : r3.1 = 0
    · rw [if_pos c4] at h
      refine sd_b_zf (c := .ne) rfl (decide_eq_false (not_not_intro c4)) (by decide) ?_
      refine sd_b_go 2 (pc2 := 24) (lv2 := [(0, .inr (.inr (some (331))))]) (st2 := [.inr (.inl (474147546227)), .inr (.inr (some (331)))]) rfl ?_
      obtain ⟨r5, e5, h⟩ := sd_bnd h
      refine sd_b_call [.inr (.inr (some (331))), .inr (.inl (474147546227))] [] rfl rfl sd_i_X10_isWord rfl rfl (Nat.le_of_ble_eq_true rfl) (sd_rc_v sd_o_331) (m_X10_isWord (by omega) e5) ?_
      by_cases c6 : r5.1 = 0
      · rw [if_pos c6] at h
        refine sd_b_zt (c := .eq) (tgt := 34) rfl (decide_eq_true c6) (by decide) ?_
        refine sd_b_go 1 (pc2 := 35) (lv2 := [(0, .inr (.inr (some (331))))]) (st2 := [.inl (0)]) rfl ?_
        cases h
        exact sd_b_rt rfl rfl rfl
      · rw [if_neg c6] at h
        refine sd_b_zf (c := .eq) rfl (decide_eq_false c6) (by decide) ?_
        refine sd_b_go 2 (pc2 := 35) (lv2 := [(0, .inr (.inr (some (331))))]) (st2 := [.inl (1)]) rfl ?_
        cases h
        exact sd_b_rt rfl rfl rfl
    · rw [if_neg c4] at h
      refine sd_b_zt (c := .ne) (tgt := 30) rfl (decide_eq_true c4) (by decide) ?_
      refine sd_b_go 2 (pc2 := 35) (lv2 := [(0, .inr (.inr (some (331))))]) (st2 := [.inl (1)]) rfl ?_
      cases h
      exact sd_b_rt rfl rfl rfl
  · rw [if_neg c2] at h
    refine sd_b_zt (c := .ne) (tgt := 30) rfl (decide_eq_true c2) (by decide) ?_
    refine sd_b_go 2 (pc2 := 35) (lv2 := [(0, .inr (.inr (some (331))))]) (st2 := [.inl (1)]) rfl ?_
    cases h
    exact sd_b_rt rfl rfl rfl
theorem m_X10_isSlipWord {X : Nat → List sd_V → List sd_E → sd_A → Prop} {d : Nat} (hd : 3 ≤ d) {M : sd_M} {Rr : Int × sd_M} (h : f_X10_isSlipWord M = some Rr) : sd_Cal X d 163 [.inr (.inr (some (331)))] (sd_rp M) (some (.inl Rr.1), sd_rp Rr.2, 0, 0) := by
  obtain ⟨d, rfl⟩ : ∃ d2, d = d2 + 1 := ⟨d - 1, by omega⟩
  exact sd_cal_of sd_i_X10_isSlipWord (Nat.le_of_ble_eq_true rfl) (t_X10_isSlipWord (by omega) M Rr h)
-- X10_clauseHere
def sd_q_X10_clauseHere : sd_MI := (yX10_clauseHere, cX10_clauseHere, 3, (some .boolean), 10, 0, sd_t_X10_clauseHere)
set_option maxRecDepth 4000 in
theorem sd_i_X10_clauseHere : sd_mL[164]? = some sd_q_X10_clauseHere := rfl
def f_X10_clauseHere_71 (v1 : Int) (v2 : Int) (s0 : Int) (s1 : Int) (M : sd_M) : Option (Int × sd_M) := if s1 = s0 then ((f_X10_fails 4 v1 M).bind fun r7 => if r7.1 = 0 ∨ r7.1 = 1 then some (r7.1, r7.2) else none) else (if v2 = 0 then ((f_X10_isTakeHere (sd_s M 331 14 (sd_w ((M 331 14) + 1)))).bind fun r3 => if r3.1 = 0 ∨ r3.1 = 1 then some (r3.1, r3.2) else none) else ((f_X10_slipLineHere v1 (sd_s M 331 14 (sd_w ((M 331 14) + 1)))).bind fun r5 => if r5.1 = 0 ∨ r5.1 = 1 then some (r5.1, r5.2) else none))
set_option maxRecDepth 4000 in
theorem t_X10_clauseHere_71 {X : Nat → List sd_V → List sd_E → sd_A → Prop} {d : Nat} (hd : 10 ≤ d) (v1 : Int) (v2 : Int) (s0 : Int) (s1 : Int) (M : sd_M) (Rr : Int × sd_M) (h : f_X10_clauseHere_71 v1 v2 s0 s1 M = some Rr) : sd_B X d sd_q_X10_clauseHere 71 [(0, .inr (.inr (some (331)))), (1, .inl (v1)), (2, .inl (v2))] [.inl (s0), .inl (s1)] M (some (.inl Rr.1), sd_rp Rr.2, 0, 0) := by
  unfold f_X10_clauseHere_71 at h
  by_cases c1 : s1 = s0
  · rw [if_pos c1] at h
    refine sd_b_cf (c := .ne) rfl (decide_eq_false (not_not_intro c1)) (by decide) ?_
    refine sd_b_go 3 (pc2 := 77) (lv2 := [(0, .inr (.inr (some (331)))), (1, .inl (v1)), (2, .inl (v2))]) (st2 := [.inl (v1), .inl (4), .inr (.inr (some (331)))]) rfl ?_
    obtain ⟨r7, e7, h⟩ := sd_bnd h
    refine sd_b_call [.inr (.inr (some (331))), .inl (4), .inl (v1)] [] rfl rfl sd_i_X10_fails rfl rfl (Nat.le_of_ble_eq_true rfl) (sd_rc_v sd_o_331) (m_X10_fails (by omega) e7) ?_
    obtain ⟨g8, h⟩ := sd_if h
    cases h
    exact sd_b_rz g8 rfl rfl
  · rw [if_neg c1] at h
    refine sd_b_ct (c := .ne) (tgt := 81) rfl (decide_eq_true c1) (by decide) ?_
    refine sd_b_go 2 (pc2 := 83) (lv2 := [(0, .inr (.inr (some (331)))), (1, .inl (v1)), (2, .inl (v2))]) (st2 := [.inr (.inr (some (331))), .inr (.inr (some (331)))]) rfl ?_
    refine sd_b_gi (k := 14) sd_o_331 rfl rfl rfl ?_
    refine sd_b_go 2 (pc2 := 88) (lv2 := [(0, .inr (.inr (some (331)))), (1, .inl (v1)), (2, .inl (v2))]) (st2 := [.inl (sd_w ((M 331 14) + 1)), .inr (.inr (some (331)))]) rfl ?_
    refine sd_b_pi (k := 14) sd_o_331 rfl rfl rfl rfl rfl ?_
    refine sd_b_go 1 (pc2 := 92) (lv2 := [(0, .inr (.inr (some (331)))), (1, .inl (v1)), (2, .inl (v2))]) (st2 := [.inl (v2)]) rfl ?_
    by_cases c2 : v2 = 0
    · rw [if_pos c2] at h
      refine sd_b_zt (c := .eq) (tgt := 103) rfl (decide_eq_true c2) (by decide) ?_
      refine sd_b_go 1 (pc2 := 104) (lv2 := [(0, .inr (.inr (some (331)))), (1, .inl (v1)), (2, .inl (v2))]) (st2 := [.inr (.inr (some (331)))]) rfl ?_
      obtain ⟨r3, e3, h⟩ := sd_bnd h
      refine sd_b_call [.inr (.inr (some (331)))] [] rfl rfl sd_i_X10_isTakeHere rfl rfl (Nat.le_of_ble_eq_true rfl) (sd_rc_v sd_o_331) (m_X10_isTakeHere (by omega) e3) ?_
      obtain ⟨g4, h⟩ := sd_if h
      cases h
      exact sd_b_rz g4 rfl rfl
    · rw [if_neg c2] at h
      refine sd_b_zf (c := .eq) rfl (decide_eq_false c2) (by decide) ?_
      refine sd_b_go 2 (pc2 := 97) (lv2 := [(0, .inr (.inr (some (331)))), (1, .inl (v1)), (2, .inl (v2))]) (st2 := [.inl (v1), .inr (.inr (some (331)))]) rfl ?_
      obtain ⟨r5, e5, h⟩ := sd_bnd h
      refine sd_b_call [.inr (.inr (some (331))), .inl (v1)] [] rfl rfl sd_i_X10_slipLineHere rfl rfl (Nat.le_of_ble_eq_true rfl) (sd_rc_v sd_o_331) (m_X10_slipLineHere (by omega) e5) ?_
      refine sd_b_go 1 (pc2 := 107) (lv2 := [(0, .inr (.inr (some (331)))), (1, .inl (v1)), (2, .inl (v2))]) (st2 := [.inl (r5.1)]) rfl ?_
      obtain ⟨g6, h⟩ := sd_if h
      cases h
      exact sd_b_rz g6 rfl rfl
def f_X10_clauseHere_56 (v1 : Int) (v2 : Int) (M : sd_M) : Option (Int × sd_M) := if v2 = 0 then (f_X10_clauseHere_71 v1 v2 12 (M 331 14) M) else (f_X10_clauseHere_71 v1 v2 40 (M 331 14) M)
set_option maxRecDepth 4000 in
theorem t_X10_clauseHere_56 {X : Nat → List sd_V → List sd_E → sd_A → Prop} {d : Nat} (hd : 10 ≤ d) (v1 : Int) (v2 : Int) (M : sd_M) (Rr : Int × sd_M) (h : f_X10_clauseHere_56 v1 v2 M = some Rr) : sd_B X d sd_q_X10_clauseHere 56 [(0, .inr (.inr (some (331)))), (1, .inl (v1)), (2, .inl (v2))] [] M (some (.inl Rr.1), sd_rp Rr.2, 0, 0) := by
  unfold f_X10_clauseHere_56 at h
  refine sd_b_go 1 (pc2 := 57) (lv2 := [(0, .inr (.inr (some (331)))), (1, .inl (v1)), (2, .inl (v2))]) (st2 := [.inr (.inr (some (331)))]) rfl ?_
  refine sd_b_gi (k := 14) sd_o_331 rfl rfl rfl ?_
  refine sd_b_go 1 (pc2 := 61) (lv2 := [(0, .inr (.inr (some (331)))), (1, .inl (v1)), (2, .inl (v2))]) (st2 := [.inl (v2), .inl (M 331 14)]) rfl ?_
  by_cases c1 : v2 = 0
  · rw [if_pos c1] at h
    refine sd_b_zt (c := .eq) (tgt := 69) rfl (decide_eq_true c1) (by decide) ?_
    refine sd_b_go 1 (pc2 := 71) (lv2 := [(0, .inr (.inr (some (331)))), (1, .inl (v1)), (2, .inl (v2))]) (st2 := [.inl (12), .inl (M 331 14)]) rfl ?_
    refine sd_b_wk [(0, .inr (.inr (some (331)))), (1, .inl (v1)), (2, .inl (v2))] (List.forall_mem_cons.mpr ⟨rfl, (List.forall_mem_cons.mpr ⟨rfl, (List.forall_mem_cons.mpr ⟨rfl, (fun _ h0 => absurd h0 List.not_mem_nil)⟩)⟩)⟩) ?_
    exact t_X10_clauseHere_71 hd v1 v2 12 (M 331 14) M _ h
  · rw [if_neg c1] at h
    refine sd_b_zf (c := .eq) rfl (decide_eq_false c1) (by decide) ?_
    refine sd_b_go 2 (pc2 := 71) (lv2 := [(0, .inr (.inr (some (331)))), (1, .inl (v1)), (2, .inl (v2))]) (st2 := [.inl (40), .inl (M 331 14)]) rfl ?_
    refine sd_b_wk [(0, .inr (.inr (some (331)))), (1, .inl (v1)), (2, .inl (v2))] (List.forall_mem_cons.mpr ⟨rfl, (List.forall_mem_cons.mpr ⟨rfl, (List.forall_mem_cons.mpr ⟨rfl, (fun _ h0 => absurd h0 List.not_mem_nil)⟩)⟩)⟩) ?_
    exact t_X10_clauseHere_71 hd v1 v2 40 (M 331 14) M _ h
def f_X10_clauseHere_49 (v1 : Int) (M : sd_M) : Option (Int × sd_M) := (f_X10_fails 0 v1 M).bind fun r1 => if r1.1 = 0 ∨ r1.1 = 1 then some (r1.1, r1.2) else none
set_option maxRecDepth 4000 in
theorem t_X10_clauseHere_49 {X : Nat → List sd_V → List sd_E → sd_A → Prop} {d : Nat} (hd : 10 ≤ d) (v1 : Int) (M : sd_M) (Rr : Int × sd_M) (h : f_X10_clauseHere_49 v1 M = some Rr) : sd_B X d sd_q_X10_clauseHere 49 [(0, .inr (.inr (some (331)))), (1, .inl (v1))] [] M (some (.inl Rr.1), sd_rp Rr.2, 0, 0) := by
  unfold f_X10_clauseHere_49 at h
  refine sd_b_go 3 (pc2 := 52) (lv2 := [(0, .inr (.inr (some (331)))), (1, .inl (v1))]) (st2 := [.inl (v1), .inl (0), .inr (.inr (some (331)))]) rfl ?_
  obtain ⟨r1, e1, h⟩ := sd_bnd h
  refine sd_b_call [.inr (.inr (some (331))), .inl (0), .inl (v1)] [] rfl rfl sd_i_X10_fails rfl rfl (Nat.le_of_ble_eq_true rfl) (sd_rc_v sd_o_331) (m_X10_fails (by omega) e1) ?_
  obtain ⟨g2, h⟩ := sd_if h
  cases h
  exact sd_b_rz g2 rfl rfl
def f_X10_clauseHere_24 (v1 : Int) (s0 : Int) (M : sd_M) : Option (Int × sd_M) := if s0 = 0 then ((f_X10_isWord 1952541541 M).bind fun r2 => if r2.1 = 0 then (f_X10_clauseHere_49 v1 r2.2) else (f_X10_clauseHere_56 v1 s0 r2.2)) else ((f_X10_isSlipWord M).bind fun r4 => if r4.1 = 0 then (f_X10_clauseHere_49 v1 r4.2) else (f_X10_clauseHere_56 v1 s0 r4.2))
set_option maxRecDepth 4000 in
theorem t_X10_clauseHere_24 {X : Nat → List sd_V → List sd_E → sd_A → Prop} {d : Nat} (hd : 10 ≤ d) (v1 : Int) (s0 : Int) (M : sd_M) (Rr : Int × sd_M) (h : f_X10_clauseHere_24 v1 s0 M = some Rr) : sd_B X d sd_q_X10_clauseHere 24 [(0, .inr (.inr (some (331)))), (1, .inl (v1))] [.inl (s0)] M (some (.inl Rr.1), sd_rp Rr.2, 0, 0) := by
  unfold f_X10_clauseHere_24 at h
  refine sd_b_go 2 (pc2 := 26) (lv2 := [(2, .inl (s0)), (0, .inr (.inr (some (331)))), (1, .inl (v1))]) (st2 := [.inl (s0)]) rfl ?_
  by_cases c1 : s0 = 0
  · rw [if_pos c1] at h
    refine sd_b_zt (c := .eq) (tgt := 39) rfl (decide_eq_true c1) (by decide) ?_
    refine sd_b_go 2 (pc2 := 43) (lv2 := [(2, .inl (s0)), (0, .inr (.inr (some (331)))), (1, .inl (v1))]) (st2 := [.inr (.inl (1952541541)), .inr (.inr (some (331)))]) rfl ?_
    obtain ⟨r2, e2, h⟩ := sd_bnd h
    refine sd_b_call [.inr (.inr (some (331))), .inr (.inl (1952541541))] [] rfl rfl sd_i_X10_isWord rfl rfl (Nat.le_of_ble_eq_true rfl) (sd_rc_v sd_o_331) (m_X10_isWord (by omega) e2) ?_
    by_cases c3 : r2.1 = 0
    · rw [if_pos c3] at h
      refine sd_b_zf (c := .ne) rfl (decide_eq_false (not_not_intro c3)) (by decide) ?_
      refine sd_b_wk [(0, .inr (.inr (some (331)))), (1, .inl (v1))] (List.forall_mem_cons.mpr ⟨rfl, (List.forall_mem_cons.mpr ⟨rfl, (fun _ h0 => absurd h0 List.not_mem_nil)⟩)⟩) ?_
      exact t_X10_clauseHere_49 hd v1 r2.2 _ h
    · rw [if_neg c3] at h
      refine sd_b_zt (c := .ne) (tgt := 56) rfl (decide_eq_true c3) (by decide) ?_
      refine sd_b_wk [(0, .inr (.inr (some (331)))), (1, .inl (v1)), (2, .inl (s0))] (List.forall_mem_cons.mpr ⟨rfl, (List.forall_mem_cons.mpr ⟨rfl, (List.forall_mem_cons.mpr ⟨rfl, (fun _ h0 => absurd h0 List.not_mem_nil)⟩)⟩)⟩) ?_
      exact t_X10_clauseHere_56 hd v1 s0 r2.2 _ h
  · rw [if_neg c1] at h
    refine sd_b_zf (c := .eq) rfl (decide_eq_false c1) (by decide) ?_
    refine sd_b_go 1 (pc2 := 30) (lv2 := [(2, .inl (s0)), (0, .inr (.inr (some (331)))), (1, .inl (v1))]) (st2 := [.inr (.inr (some (331)))]) rfl ?_
    obtain ⟨r4, e4, h⟩ := sd_bnd h
    refine sd_b_call [.inr (.inr (some (331)))] [] rfl rfl sd_i_X10_isSlipWord rfl rfl (Nat.le_of_ble_eq_true rfl) (sd_rc_v sd_o_331) (m_X10_isSlipWord (by omega) e4) ?_
    by_cases c5 : r4.1 = 0
    · rw [if_pos c5] at h
      refine sd_b_zf (c := .ne) rfl (decide_eq_false (not_not_intro c5)) (by decide) ?_
      refine sd_b_go 1 (pc2 := 49) (lv2 := [(2, .inl (s0)), (0, .inr (.inr (some (331)))), (1, .inl (v1))]) (st2 := []) rfl ?_
      refine sd_b_wk [(0, .inr (.inr (some (331)))), (1, .inl (v1))] (List.forall_mem_cons.mpr ⟨rfl, (List.forall_mem_cons.mpr ⟨rfl, (fun _ h0 => absurd h0 List.not_mem_nil)⟩)⟩) ?_
      exact t_X10_clauseHere_49 hd v1 r4.2 _ h
    · rw [if_neg c5] at h
      refine sd_b_zt (c := .ne) (tgt := 56) rfl (decide_eq_true c5) (by decide) ?_
      refine sd_b_wk [(0, .inr (.inr (some (331)))), (1, .inl (v1)), (2, .inl (s0))] (List.forall_mem_cons.mpr ⟨rfl, (List.forall_mem_cons.mpr ⟨rfl, (List.forall_mem_cons.mpr ⟨rfl, (fun _ h0 => absurd h0 List.not_mem_nil)⟩)⟩)⟩) ?_
      exact t_X10_clauseHere_56 hd v1 s0 r4.2 _ h
def f_X10_clauseHere (M : sd_M) : Option (Int × sd_M) := (f_X10_see M).bind fun r1 => if (r1.2 331 11) = 6 then (f_X10_clauseHere_24 (r1.2 331 8) 1 r1.2) else (f_X10_clauseHere_24 (r1.2 331 8) 0 r1.2)
set_option maxRecDepth 4000 in
theorem t_X10_clauseHere {X : Nat → List sd_V → List sd_E → sd_A → Prop} {d : Nat} (hd : 10 ≤ d) (M : sd_M) (Rr : Int × sd_M) (h : f_X10_clauseHere M = some Rr) : sd_B X d sd_q_X10_clauseHere 0 [(0, .inr (.inr (some (331))))] [] M (some (.inl Rr.1), sd_rp Rr.2, 0, 0) := by
  unfold f_X10_clauseHere at h
  refine sd_b_go 1 (pc2 := 1) (lv2 := [(0, .inr (.inr (some (331))))]) (st2 := [.inr (.inr (some (331)))]) rfl ?_
  obtain ⟨r1, e1, h⟩ := sd_bnd h
  refine sd_b_call [.inr (.inr (some (331)))] [] rfl rfl sd_i_X10_see rfl rfl (Nat.le_of_ble_eq_true rfl) (sd_rc_v sd_o_331) (m_X10_see (by omega) e1) ?_
  refine sd_b_go 2 (pc2 := 6) (lv2 := [(0, .inr (.inr (some (331))))]) (st2 := [.inr (.inr (some (331)))]) rfl ?_
  refine sd_b_gi (k := 8) sd_o_331 rfl rfl rfl ?_
  refine sd_b_go 2 (pc2 := 11) (lv2 := [(1, .inl (r1.2 331 8)), (0, .inr (.inr (some (331))))]) (st2 := [.inr (.inr (some (331)))]) rfl ?_
  refine sd_b_gi (k := 11) sd_o_331 rfl rfl rfl ?_
  refine sd_b_go 1 (pc2 := 16) (lv2 := [(1, .inl (r1.2 331 8)), (0, .inr (.inr (some (331))))]) (st2 := [.inl (6), .inl (r1.2 331 11)]) rfl ?_
  by_cases c2 : (r1.2 331 11) = 6
  · rw [if_pos c2] at h
    refine sd_b_cf (c := .ne) rfl (decide_eq_false (not_not_intro c2)) (by decide) ?_
    refine sd_b_go 2 (pc2 := 24) (lv2 := [(1, .inl (r1.2 331 8)), (0, .inr (.inr (some (331))))]) (st2 := [.inl (1)]) rfl ?_
    refine sd_b_wk [(0, .inr (.inr (some (331)))), (1, .inl (r1.2 331 8))] (List.forall_mem_cons.mpr ⟨rfl, (List.forall_mem_cons.mpr ⟨rfl, (fun _ h0 => absurd h0 List.not_mem_nil)⟩)⟩) ?_
    exact t_X10_clauseHere_24 hd (r1.2 331 8) 1 r1.2 _ h
  · rw [if_neg c2] at h
    refine sd_b_ct (c := .ne) (tgt := 23) rfl (decide_eq_true c2) (by decide) ?_
    refine sd_b_go 1 (pc2 := 24) (lv2 := [(1, .inl (r1.2 331 8)), (0, .inr (.inr (some (331))))]) (st2 := [.inl (0)]) rfl ?_
    refine sd_b_wk [(0, .inr (.inr (some (331)))), (1, .inl (r1.2 331 8))] (List.forall_mem_cons.mpr ⟨rfl, (List.forall_mem_cons.mpr ⟨rfl, (fun _ h0 => absurd h0 List.not_mem_nil)⟩)⟩) ?_
    exact t_X10_clauseHere_24 hd (r1.2 331 8) 0 r1.2 _ h
theorem m_X10_clauseHere {X : Nat → List sd_V → List sd_E → sd_A → Prop} {d : Nat} (hd : 11 ≤ d) {M : sd_M} {Rr : Int × sd_M} (h : f_X10_clauseHere M = some Rr) : sd_Cal X d 164 [.inr (.inr (some (331)))] (sd_rp M) (some (.inl Rr.1), sd_rp Rr.2, 0, 0) := by
  obtain ⟨d, rfl⟩ : ∃ d2, d = d2 + 1 := ⟨d - 1, by omega⟩
  exact sd_cal_of sd_i_X10_clauseHere (Nat.le_of_ble_eq_true rfl) (t_X10_clauseHere (by omega) M Rr h)
-- X10_readsAll
def sd_q_X10_readsAll : sd_MI := (yX10_readsAll, cX10_readsAll, 2, (some .boolean), 10, 0, sd_t_X10_readsAll)
set_option maxRecDepth 4000 in
theorem sd_i_X10_readsAll : sd_mL[165]? = some sd_q_X10_readsAll := rfl
def f_X10_readsAll_35 (k66 : Int → sd_M → Option (Int × sd_M)) : Nat → Int → sd_M → Option (Int × sd_M)
  | 0, _, _ => none
  | n + 1, v1, M => if v1 = 0 then (k66 v1 M) else ((f_X10_see M).bind fun r2 => if r2.1 = 59 then ((f_X10_clauseHere (sd_s r2.2 331 8 (sd_w ((r2.2 331 8) + 1)))).bind fun r4 => f_X10_readsAll_35 k66 n r4.1 r4.2) else (k66 v1 r2.2))
set_option maxRecDepth 4000 in
theorem t_X10_readsAll_35 {X : Nat → List sd_V → List sd_E → sd_A → Prop} {d : Nat} (hd : 11 ≤ d) (k66 : Int → sd_M → Option (Int × sd_M)) (hk66 : ∀ (v1 : Int) (M : sd_M) (Rr : Int × sd_M), k66 v1 M = some Rr → sd_B X d sd_q_X10_readsAll 66 [(0, .inr (.inr (some (331)))), (1, .inl (v1))] [] M (some (.inl Rr.1), sd_rp Rr.2, 0, 0)) : ∀ (n : Nat) (v1 : Int) (M : sd_M) (Rr : Int × sd_M), f_X10_readsAll_35 k66 n v1 M = some Rr → sd_B X d sd_q_X10_readsAll 35 [(0, .inr (.inr (some (331)))), (1, .inl (v1))] [] M (some (.inl Rr.1), sd_rp Rr.2, 0, 0) := by
  intro n
  induction n with
  | zero => intro v1 M Rr h; cases h
  | succ n ih =>
    intro v1 M Rr h
    rw [f_X10_readsAll_35] at h
    refine sd_b_go 1 (pc2 := 36) (lv2 := [(0, .inr (.inr (some (331)))), (1, .inl (v1))]) (st2 := [.inl (v1)]) rfl ?_
    by_cases c1 : v1 = 0
    · rw [if_pos c1] at h
      refine sd_b_zt (c := .eq) (tgt := 66) rfl (decide_eq_true c1) (by decide) ?_
      refine sd_b_wk [(0, .inr (.inr (some (331)))), (1, .inl (v1))] (List.forall_mem_cons.mpr ⟨rfl, (List.forall_mem_cons.mpr ⟨rfl, (fun _ h0 => absurd h0 List.not_mem_nil)⟩)⟩) ?_
      exact hk66 v1 M _ h
    · rw [if_neg c1] at h
      refine sd_b_zf (c := .eq) rfl (decide_eq_false c1) (by decide) ?_
      refine sd_b_go 1 (pc2 := 40) (lv2 := [(0, .inr (.inr (some (331)))), (1, .inl (v1))]) (st2 := [.inr (.inr (some (331)))]) rfl ?_
      obtain ⟨r2, e2, h⟩ := sd_bnd h
      refine sd_b_call [.inr (.inr (some (331)))] [] rfl rfl sd_i_X10_see rfl rfl (Nat.le_of_ble_eq_true rfl) (sd_rc_v sd_o_331) (m_X10_see (by omega) e2) ?_
      refine sd_b_go 1 (pc2 := 45) (lv2 := [(0, .inr (.inr (some (331)))), (1, .inl (v1))]) (st2 := [.inl (59), .inl (r2.1)]) rfl ?_
      by_cases c3 : r2.1 = 59
      · rw [if_pos c3] at h
        refine sd_b_cf (c := .ne) rfl (decide_eq_false (not_not_intro c3)) (by decide) ?_
        refine sd_b_go 2 (pc2 := 50) (lv2 := [(0, .inr (.inr (some (331)))), (1, .inl (v1))]) (st2 := [.inr (.inr (some (331))), .inr (.inr (some (331)))]) rfl ?_
        refine sd_b_gi (k := 8) sd_o_331 rfl rfl rfl ?_
        refine sd_b_go 2 (pc2 := 55) (lv2 := [(0, .inr (.inr (some (331)))), (1, .inl (v1))]) (st2 := [.inl (sd_w ((r2.2 331 8) + 1)), .inr (.inr (some (331)))]) rfl ?_
        refine sd_b_pi (k := 8) sd_o_331 rfl rfl rfl rfl rfl ?_
        refine sd_b_go 1 (pc2 := 59) (lv2 := [(0, .inr (.inr (some (331)))), (1, .inl (v1))]) (st2 := [.inr (.inr (some (331)))]) rfl ?_
        obtain ⟨r4, e4, h⟩ := sd_bnd h
        refine sd_b_call [.inr (.inr (some (331)))] [] rfl rfl sd_i_X10_clauseHere rfl rfl (Nat.le_of_ble_eq_true rfl) (sd_rc_v sd_o_331) (m_X10_clauseHere (by omega) e4) ?_
        refine sd_b_go 2 (pc2 := 35) (lv2 := [(1, .inl (r4.1)), (0, .inr (.inr (some (331))))]) (st2 := []) rfl ?_
        refine sd_b_wk [(0, .inr (.inr (some (331)))), (1, .inl (r4.1))] (List.forall_mem_cons.mpr ⟨rfl, (List.forall_mem_cons.mpr ⟨rfl, (fun _ h0 => absurd h0 List.not_mem_nil)⟩)⟩) ?_
        exact ih r4.1 r4.2 _ h
      · rw [if_neg c3] at h
        refine sd_b_ct (c := .ne) (tgt := 66) rfl (decide_eq_true c3) (by decide) ?_
        refine sd_b_wk [(0, .inr (.inr (some (331)))), (1, .inl (v1))] (List.forall_mem_cons.mpr ⟨rfl, (List.forall_mem_cons.mpr ⟨rfl, (fun _ h0 => absurd h0 List.not_mem_nil)⟩)⟩) ?_
        exact hk66 v1 r2.2 _ h
def f_X10_readsAll_88 (M : sd_M) : Option (Int × sd_M) := if (sd_s M 331 1 0 331 9) = 0 then (some (1, sd_s M 331 1 0)) else (some (0, sd_s M 331 1 0))
set_option maxRecDepth 4000 in
theorem t_X10_readsAll_88 {X : Nat → List sd_V → List sd_E → sd_A → Prop} {d : Nat} (hd : 11 ≤ d) (M : sd_M) (Rr : Int × sd_M) (h : f_X10_readsAll_88 M = some Rr) : sd_B X d sd_q_X10_readsAll 88 [(0, .inr (.inr (some (331))))] [] M (some (.inl Rr.1), sd_rp Rr.2, 0, 0) := by
  unfold f_X10_readsAll_88 at h
  refine sd_b_go 2 (pc2 := 90) (lv2 := [(0, .inr (.inr (some (331))))]) (st2 := [.inl (0), .inr (.inr (some (331)))]) rfl ?_
  refine sd_b_pi (k := 1) sd_o_331 rfl rfl rfl rfl rfl ?_
  refine sd_b_go 1 (pc2 := 94) (lv2 := [(0, .inr (.inr (some (331))))]) (st2 := [.inr (.inr (some (331)))]) rfl ?_
  refine sd_b_gi (k := 9) sd_o_331 rfl rfl rfl ?_
  by_cases c1 : (sd_s M 331 1 0 331 9) = 0
  · rw [if_pos c1] at h
    refine sd_b_zf (c := .ne) rfl (decide_eq_false (not_not_intro c1)) (by decide) ?_
    refine sd_b_go 2 (pc2 := 105) (lv2 := [(0, .inr (.inr (some (331))))]) (st2 := [.inl (1)]) rfl ?_
    cases h
    exact sd_b_rt rfl rfl rfl
  · rw [if_neg c1] at h
    refine sd_b_zt (c := .ne) (tgt := 104) rfl (decide_eq_true c1) (by decide) ?_
    refine sd_b_go 1 (pc2 := 105) (lv2 := [(0, .inr (.inr (some (331))))]) (st2 := [.inl (0)]) rfl ?_
    cases h
    exact sd_b_rt rfl rfl rfl
def f_X10_readsAll_66 (v1 : Int) (M : sd_M) : Option (Int × sd_M) := if v1 = 0 then (f_X10_readsAll_88 M) else ((f_X10_see M).bind fun r2 => if r2.1 = ((-1)) then (f_X10_readsAll_88 r2.2) else ((f_X10_fails 0 (r2.2 331 8) r2.2).bind fun r4 => f_X10_readsAll_88 r4.2))
set_option maxRecDepth 4000 in
theorem t_X10_readsAll_66 {X : Nat → List sd_V → List sd_E → sd_A → Prop} {d : Nat} (hd : 11 ≤ d) (v1 : Int) (M : sd_M) (Rr : Int × sd_M) (h : f_X10_readsAll_66 v1 M = some Rr) : sd_B X d sd_q_X10_readsAll 66 [(0, .inr (.inr (some (331)))), (1, .inl (v1))] [] M (some (.inl Rr.1), sd_rp Rr.2, 0, 0) := by
  unfold f_X10_readsAll_66 at h
  refine sd_b_go 1 (pc2 := 67) (lv2 := [(0, .inr (.inr (some (331)))), (1, .inl (v1))]) (st2 := [.inl (v1)]) rfl ?_
  by_cases c1 : v1 = 0
  · rw [if_pos c1] at h
    refine sd_b_zt (c := .eq) (tgt := 88) rfl (decide_eq_true c1) (by decide) ?_
    refine sd_b_wk [(0, .inr (.inr (some (331))))] (List.forall_mem_cons.mpr ⟨rfl, (fun _ h0 => absurd h0 List.not_mem_nil)⟩) ?_
    exact t_X10_readsAll_88 hd M _ h
  · rw [if_neg c1] at h
    refine sd_b_zf (c := .eq) rfl (decide_eq_false c1) (by decide) ?_
    refine sd_b_go 1 (pc2 := 71) (lv2 := [(0, .inr (.inr (some (331)))), (1, .inl (v1))]) (st2 := [.inr (.inr (some (331)))]) rfl ?_
    obtain ⟨r2, e2, h⟩ := sd_bnd h
    refine sd_b_call [.inr (.inr (some (331)))] [] rfl rfl sd_i_X10_see rfl rfl (Nat.le_of_ble_eq_true rfl) (sd_rc_v sd_o_331) (m_X10_see (by omega) e2) ?_
    refine sd_b_go 1 (pc2 := 75) (lv2 := [(0, .inr (.inr (some (331)))), (1, .inl (v1))]) (st2 := [.inl ((-1)), .inl (r2.1)]) rfl ?_
    by_cases c3 : r2.1 = ((-1))
    · rw [if_pos c3] at h
      refine sd_b_ct (c := .eq) (tgt := 88) rfl (decide_eq_true c3) (by decide) ?_
      refine sd_b_wk [(0, .inr (.inr (some (331))))] (List.forall_mem_cons.mpr ⟨rfl, (fun _ h0 => absurd h0 List.not_mem_nil)⟩) ?_
      exact t_X10_readsAll_88 hd r2.2 _ h
    · rw [if_neg c3] at h
      refine sd_b_cf (c := .eq) rfl (decide_eq_false c3) (by decide) ?_
      refine sd_b_go 3 (pc2 := 81) (lv2 := [(0, .inr (.inr (some (331)))), (1, .inl (v1))]) (st2 := [.inr (.inr (some (331))), .inl (0), .inr (.inr (some (331)))]) rfl ?_
      refine sd_b_gi (k := 8) sd_o_331 rfl rfl rfl ?_
      obtain ⟨r4, e4, h⟩ := sd_bnd h
      refine sd_b_call [.inr (.inr (some (331))), .inl (0), .inl (r2.2 331 8)] [] rfl rfl sd_i_X10_fails rfl rfl (Nat.le_of_ble_eq_true rfl) (sd_rc_v sd_o_331) (m_X10_fails (by omega) e4) ?_
      refine sd_b_go 1 (pc2 := 88) (lv2 := [(0, .inr (.inr (some (331)))), (1, .inl (v1))]) (st2 := []) rfl ?_
      refine sd_b_wk [(0, .inr (.inr (some (331))))] (List.forall_mem_cons.mpr ⟨rfl, (fun _ h0 => absurd h0 List.not_mem_nil)⟩) ?_
      exact t_X10_readsAll_88 hd r4.2 _ h
def f_X10_readsAll (M : sd_M) : Option (Int × sd_M) := if 0 ≤ (M 331 11) ∧ (M 331 11) < 7 then ((f_X10_clauseHere (sd_s (sd_s (sd_s (sd_s (sd_s M 334 (M 331 11).toNat 0) 331 14 0) 331 8 0) 331 9 0) 331 12 0)).bind fun r2 => f_X10_readsAll_35 (f_X10_readsAll_66) 4000 r2.1 r2.2) else none
set_option maxRecDepth 4000 in
theorem t_X10_readsAll {X : Nat → List sd_V → List sd_E → sd_A → Prop} {d : Nat} (hd : 11 ≤ d) (M : sd_M) (Rr : Int × sd_M) (h : f_X10_readsAll M = some Rr) : sd_B X d sd_q_X10_readsAll 0 [(0, .inr (.inr (some (331))))] [] M (some (.inl Rr.1), sd_rp Rr.2, 0, 0) := by
  unfold f_X10_readsAll at h
  refine sd_b_go 1 (pc2 := 1) (lv2 := [(0, .inr (.inr (some (331))))]) (st2 := [.inr (.inr (some (331)))]) rfl ?_
  refine sd_b_gr (k := 4) sd_o_331 rfl rfl rfl ?_
  refine sd_b_go 1 (pc2 := 5) (lv2 := [(0, .inr (.inr (some (331))))]) (st2 := [.inr (.inr (some (331))), .inr (.inr (some (334)))]) rfl ?_
  refine sd_b_gi (k := 11) sd_o_331 rfl rfl rfl ?_
  refine sd_b_go 1 (pc2 := 9) (lv2 := [(0, .inr (.inr (some (331))))]) (st2 := [.inl (0), .inl (M 331 11), .inr (.inr (some (334)))]) rfl ?_
  obtain ⟨g1, h⟩ := sd_if h
  refine sd_b_si (sd_oa sd_o_331 (by decide) (off := 3) (List.mem_of_getElem? (i := 2) rfl)) g1 rfl ?_
  refine sd_b_go 2 (pc2 := 12) (lv2 := [(0, .inr (.inr (some (331))))]) (st2 := [.inl (0), .inr (.inr (some (331)))]) rfl ?_
  refine sd_b_pi (k := 14) sd_o_331 rfl rfl rfl rfl rfl ?_
  refine sd_b_go 2 (pc2 := 17) (lv2 := [(0, .inr (.inr (some (331))))]) (st2 := [.inl (0), .inr (.inr (some (331)))]) rfl ?_
  refine sd_b_pi (k := 8) sd_o_331 rfl rfl rfl rfl rfl ?_
  refine sd_b_go 2 (pc2 := 22) (lv2 := [(0, .inr (.inr (some (331))))]) (st2 := [.inl (0), .inr (.inr (some (331)))]) rfl ?_
  refine sd_b_pi (k := 9) sd_o_331 rfl rfl rfl rfl rfl ?_
  refine sd_b_go 2 (pc2 := 27) (lv2 := [(0, .inr (.inr (some (331))))]) (st2 := [.inl (0), .inr (.inr (some (331)))]) rfl ?_
  refine sd_b_pi (k := 12) sd_o_331 rfl rfl rfl rfl rfl ?_
  refine sd_b_go 1 (pc2 := 31) (lv2 := [(0, .inr (.inr (some (331))))]) (st2 := [.inr (.inr (some (331)))]) rfl ?_
  obtain ⟨r2, e2, h⟩ := sd_bnd h
  refine sd_b_call [.inr (.inr (some (331)))] [] rfl rfl sd_i_X10_clauseHere rfl rfl (Nat.le_of_ble_eq_true rfl) (sd_rc_v sd_o_331) (m_X10_clauseHere (by omega) e2) ?_
  refine sd_b_go 1 (pc2 := 35) (lv2 := [(1, .inl (r2.1)), (0, .inr (.inr (some (331))))]) (st2 := []) rfl ?_
  refine sd_b_wk [(0, .inr (.inr (some (331)))), (1, .inl (r2.1))] (List.forall_mem_cons.mpr ⟨rfl, (List.forall_mem_cons.mpr ⟨rfl, (fun _ h0 => absurd h0 List.not_mem_nil)⟩)⟩) ?_
  exact t_X10_readsAll_35 hd (f_X10_readsAll_66) (t_X10_readsAll_66 hd) 4000 r2.1 r2.2 _ h
theorem m_X10_readsAll {X : Nat → List sd_V → List sd_E → sd_A → Prop} {d : Nat} (hd : 12 ≤ d) {M : sd_M} {Rr : Int × sd_M} (h : f_X10_readsAll M = some Rr) : sd_Cal X d 165 [.inr (.inr (some (331)))] (sd_rp M) (some (.inl Rr.1), sd_rp Rr.2, 0, 0) := by
  obtain ⟨d, rfl⟩ : ∃ d2, d = d2 + 1 := ⟨d - 1, by omega⟩
  exact sd_cal_of sd_i_X10_readsAll (Nat.le_of_ble_eq_true rfl) (t_X10_readsAll (by omega) M Rr h)
-- X10_rule
def sd_q_X10_rule : sd_MI := (yX10_rule, cX10_rule, 1, (some .int), 10, 0, sd_t_X10_rule)
set_option maxRecDepth 4000 in
theorem sd_i_X10_rule : sd_mL[166]? = some sd_q_X10_rule := rfl
def f_X10_rule (M : sd_M) : Option (Int × sd_M) := if (M 331 2) = 6 then (some ((-1), M)) else (if 0 ≤ (sd_s M 331 11 (M 331 2) 331 11) ∧ (sd_s M 331 11 (M 331 2) 331 11) < 6 then ((f_X10_readsAll (sd_s (sd_s M 331 11 (M 331 2)) 336 (sd_s M 331 11 (M 331 2) 331 11).toNat 0)).bind fun r3 => if r3.1 = 0 then (some (sd_w (((-2)) - (r3.2 331 9)), r3.2)) else (some (sd_w ((sd_s r3.2 331 2 (sd_w ((r3.2 331 2) + 1)) 331 2) - 1), sd_s r3.2 331 2 (sd_w ((r3.2 331 2) + 1))))) else none)
set_option maxRecDepth 4000 in
theorem t_X10_rule {X : Nat → List sd_V → List sd_E → sd_A → Prop} {d : Nat} (hd : 12 ≤ d) (M : sd_M) (Rr : Int × sd_M) (h : f_X10_rule M = some Rr) : sd_B X d sd_q_X10_rule 0 [(0, .inr (.inr (some (331))))] [] M (some (.inl Rr.1), sd_rp Rr.2, 0, 0) := by
  unfold f_X10_rule at h
  refine sd_b_go 1 (pc2 := 1) (lv2 := [(0, .inr (.inr (some (331))))]) (st2 := [.inr (.inr (some (331)))]) rfl ?_
  refine sd_b_gi (k := 2) sd_o_331 rfl rfl rfl ?_
  refine sd_b_go 1 (pc2 := 6) (lv2 := [(0, .inr (.inr (some (331))))]) (st2 := [.inl (6), .inl (M 331 2)]) rfl ?_
  by_cases c1 : (M 331 2) = 6
  · rw [if_pos c1] at h
    refine sd_b_cf (c := .ne) rfl (decide_eq_false (not_not_intro c1)) (by decide) ?_
    refine sd_b_go 1 (pc2 := 10) (lv2 := [(0, .inr (.inr (some (331))))]) (st2 := [.inl ((-1))]) rfl ?_
    cases h
    exact sd_b_rt rfl rfl rfl
  · rw [if_neg c1] at h
    refine sd_b_ct (c := .ne) (tgt := 11) rfl (decide_eq_true c1) (by decide) ?_
    refine sd_b_go 2 (pc2 := 13) (lv2 := [(0, .inr (.inr (some (331))))]) (st2 := [.inr (.inr (some (331))), .inr (.inr (some (331)))]) rfl ?_
    refine sd_b_gi (k := 2) sd_o_331 rfl rfl rfl ?_
    refine sd_b_pi (k := 11) sd_o_331 rfl rfl rfl rfl rfl ?_
    refine sd_b_go 1 (pc2 := 20) (lv2 := [(0, .inr (.inr (some (331))))]) (st2 := [.inr (.inr (some (331)))]) rfl ?_
    refine sd_b_gr (k := 6) sd_o_331 rfl rfl rfl ?_
    refine sd_b_go 1 (pc2 := 24) (lv2 := [(0, .inr (.inr (some (331))))]) (st2 := [.inr (.inr (some (331))), .inr (.inr (some (336)))]) rfl ?_
    refine sd_b_gi (k := 11) sd_o_331 rfl rfl rfl ?_
    refine sd_b_go 1 (pc2 := 28) (lv2 := [(0, .inr (.inr (some (331))))]) (st2 := [.inl (0), .inl (sd_s M 331 11 (M 331 2) 331 11), .inr (.inr (some (336)))]) rfl ?_
    obtain ⟨g2, h⟩ := sd_if h
    refine sd_b_si (sd_oa sd_o_331 (by decide) (off := 5) (List.mem_of_getElem? (i := 4) rfl)) g2 rfl ?_
    refine sd_b_go 1 (pc2 := 30) (lv2 := [(0, .inr (.inr (some (331))))]) (st2 := [.inr (.inr (some (331)))]) rfl ?_
    obtain ⟨r3, e3, h⟩ := sd_bnd h
    refine sd_b_call [.inr (.inr (some (331)))] [] rfl rfl sd_i_X10_readsAll rfl rfl (Nat.le_of_ble_eq_true rfl) (sd_rc_v sd_o_331) (m_X10_readsAll (by omega) e3) ?_
    by_cases c4 : r3.1 = 0
    · rw [if_pos c4] at h
      refine sd_b_zf (c := .ne) rfl (decide_eq_false (not_not_intro c4)) (by decide) ?_
      refine sd_b_go 2 (pc2 := 39) (lv2 := [(0, .inr (.inr (some (331))))]) (st2 := [.inr (.inr (some (331))), .inl ((-2))]) rfl ?_
      refine sd_b_gi (k := 9) sd_o_331 rfl rfl rfl ?_
      refine sd_b_go 1 (pc2 := 43) (lv2 := [(0, .inr (.inr (some (331))))]) (st2 := [.inl (sd_w (((-2)) - (r3.2 331 9)))]) rfl ?_
      cases h
      exact sd_b_rt rfl rfl rfl
    · rw [if_neg c4] at h
      refine sd_b_zt (c := .ne) (tgt := 44) rfl (decide_eq_true c4) (by decide) ?_
      refine sd_b_go 2 (pc2 := 46) (lv2 := [(0, .inr (.inr (some (331))))]) (st2 := [.inr (.inr (some (331))), .inr (.inr (some (331)))]) rfl ?_
      refine sd_b_gi (k := 2) sd_o_331 rfl rfl rfl ?_
      refine sd_b_go 2 (pc2 := 51) (lv2 := [(0, .inr (.inr (some (331))))]) (st2 := [.inl (sd_w ((r3.2 331 2) + 1)), .inr (.inr (some (331)))]) rfl ?_
      refine sd_b_pi (k := 2) sd_o_331 rfl rfl rfl rfl rfl ?_
      refine sd_b_go 1 (pc2 := 55) (lv2 := [(0, .inr (.inr (some (331))))]) (st2 := [.inr (.inr (some (331)))]) rfl ?_
      refine sd_b_gi (k := 2) sd_o_331 rfl rfl rfl ?_
      refine sd_b_go 2 (pc2 := 60) (lv2 := [(0, .inr (.inr (some (331))))]) (st2 := [.inl (sd_w ((sd_s r3.2 331 2 (sd_w ((r3.2 331 2) + 1)) 331 2) - 1))]) rfl ?_
      cases h
      exact sd_b_rt rfl rfl rfl
theorem m_X10_rule {X : Nat → List sd_V → List sd_E → sd_A → Prop} {d : Nat} (hd : 13 ≤ d) {M : sd_M} {Rr : Int × sd_M} (h : f_X10_rule M = some Rr) : sd_Cal X d 166 [.inr (.inr (some (331)))] (sd_rp M) (some (.inl Rr.1), sd_rp Rr.2, 0, 0) := by
  obtain ⟨d, rfl⟩ : ∃ d2, d = d2 + 1 := ⟨d - 1, by omega⟩
  exact sd_cal_of sd_i_X10_rule (Nat.le_of_ble_eq_true rfl) (t_X10_rule (by omega) M Rr h)
-- X10_isRule
def sd_q_X10_isRule : sd_MI := (yX10_isRule, cX10_isRule, 2, (some .boolean), 10, 1, sd_t_X10_isRule)
set_option maxRecDepth 4000 in
theorem sd_i_X10_isRule : sd_mL[168]? = some sd_q_X10_isRule := rfl
def f_X10_isRule (p1 : Int) (M : sd_M) : Option (Int × sd_M) := if p1 < 0 then (some (0, M)) else (if (M 331 2) ≤ p1 then (some (0, M)) else (some (1, M)))
set_option maxRecDepth 4000 in
theorem t_X10_isRule {X : Nat → List sd_V → List sd_E → sd_A → Prop} {d : Nat} (hd : 0 ≤ d) (p1 : Int) (M : sd_M) (Rr : Int × sd_M) (h : f_X10_isRule p1 M = some Rr) : sd_B X d sd_q_X10_isRule 0 [(0, .inr (.inr (some (331)))), (1, .inl (p1))] [] M (some (.inl Rr.1), sd_rp Rr.2, 0, 0) := by
  unfold f_X10_isRule at h
  refine sd_b_go 1 (pc2 := 1) (lv2 := [(0, .inr (.inr (some (331)))), (1, .inl (p1))]) (st2 := [.inl (p1)]) rfl ?_
  by_cases c1 : p1 < 0
  · rw [if_pos c1] at h
    refine sd_b_zt (c := .lt) (tgt := 16) rfl (decide_eq_true c1) (by decide) ?_
    refine sd_b_go 1 (pc2 := 17) (lv2 := [(0, .inr (.inr (some (331)))), (1, .inl (p1))]) (st2 := [.inl (0)]) rfl ?_
    cases h
    exact sd_b_rt rfl rfl rfl
  · rw [if_neg c1] at h
    refine sd_b_zf (c := .lt) rfl (decide_eq_false c1) (by decide) ?_
    refine sd_b_go 2 (pc2 := 6) (lv2 := [(0, .inr (.inr (some (331)))), (1, .inl (p1))]) (st2 := [.inr (.inr (some (331))), .inl (p1)]) rfl ?_
    refine sd_b_gi (k := 2) sd_o_331 rfl rfl rfl ?_
    by_cases c2 : (M 331 2) ≤ p1
    · rw [if_pos c2] at h
      refine sd_b_ct (c := .ge) (tgt := 16) rfl (decide_eq_true c2) (by decide) ?_
      refine sd_b_go 1 (pc2 := 17) (lv2 := [(0, .inr (.inr (some (331)))), (1, .inl (p1))]) (st2 := [.inl (0)]) rfl ?_
      cases h
      exact sd_b_rt rfl rfl rfl
    · rw [if_neg c2] at h
      refine sd_b_cf (c := .ge) rfl (decide_eq_false c2) (by decide) ?_
      refine sd_b_go 2 (pc2 := 17) (lv2 := [(0, .inr (.inr (some (331)))), (1, .inl (p1))]) (st2 := [.inl (1)]) rfl ?_
      cases h
      exact sd_b_rt rfl rfl rfl
theorem m_X10_isRule {X : Nat → List sd_V → List sd_E → sd_A → Prop} {d : Nat} (hd : 1 ≤ d) {p1 : Int} {M : sd_M} {Rr : Int × sd_M} (h : f_X10_isRule p1 M = some Rr) : sd_Cal X d 168 [.inr (.inr (some (331))), .inl (p1)] (sd_rp M) (some (.inl Rr.1), sd_rp Rr.2, 0, 0) := by
  obtain ⟨d, rfl⟩ : ∃ d2, d = d2 + 1 := ⟨d - 1, by omega⟩
  exact sd_cal_of sd_i_X10_isRule (Nat.le_of_ble_eq_true rfl) (t_X10_isRule (by omega) p1 M Rr h)
-- X10_push
def sd_q_X10_push : sd_MI := (yX10_push, cX10_push, 3, none, 10, 1, sd_t_X10_push)
set_option maxRecDepth 4000 in
theorem sd_i_X10_push : sd_mL[169]? = some sd_q_X10_push := rfl
def f_X10_push (p1 : Int) (M : sd_M) : Option (Int × sd_M) := if 0 ≤ (M 331 18) ∧ (M 331 18) < 64 then (some (0, sd_s (sd_s M 339 (M 331 18).toNat p1) 331 18 (sd_w ((sd_s M 339 (M 331 18).toNat p1 331 18) + 1)))) else none
set_option maxRecDepth 4000 in
theorem t_X10_push {X : Nat → List sd_V → List sd_E → sd_A → Prop} {d : Nat} (hd : 0 ≤ d) (p1 : Int) (M : sd_M) (Rr : Int × sd_M) (h : f_X10_push p1 M = some Rr) : sd_B X d sd_q_X10_push 0 [(0, .inr (.inr (some (331)))), (1, .inr (.inl (p1)))] [] M (none, sd_rp Rr.2, 0, 0) := by
  unfold f_X10_push at h
  refine sd_b_go 1 (pc2 := 1) (lv2 := [(0, .inr (.inr (some (331)))), (1, .inr (.inl (p1)))]) (st2 := [.inr (.inr (some (331)))]) rfl ?_
  refine sd_b_gr (k := 17) sd_o_331 rfl rfl rfl ?_
  refine sd_b_go 1 (pc2 := 5) (lv2 := [(0, .inr (.inr (some (331)))), (1, .inr (.inl (p1)))]) (st2 := [.inr (.inr (some (331))), .inr (.inr (some (339)))]) rfl ?_
  refine sd_b_gi (k := 18) sd_o_331 rfl rfl rfl ?_
  refine sd_b_go 1 (pc2 := 9) (lv2 := [(0, .inr (.inr (some (331)))), (1, .inr (.inl (p1)))]) (st2 := [.inr (.inl (p1)), .inl (M 331 18), .inr (.inr (some (339)))]) rfl ?_
  obtain ⟨g1, h⟩ := sd_if h
  refine sd_b_sl (sd_oa sd_o_331 (by decide) (off := 8) (List.mem_of_getElem? (i := 7) rfl)) g1 rfl ?_
  refine sd_b_go 2 (pc2 := 12) (lv2 := [(0, .inr (.inr (some (331)))), (1, .inr (.inl (p1)))]) (st2 := [.inr (.inr (some (331))), .inr (.inr (some (331)))]) rfl ?_
  refine sd_b_gi (k := 18) sd_o_331 rfl rfl rfl ?_
  refine sd_b_go 2 (pc2 := 17) (lv2 := [(0, .inr (.inr (some (331)))), (1, .inr (.inl (p1)))]) (st2 := [.inl (sd_w ((sd_s M 339 (M 331 18).toNat p1 331 18) + 1)), .inr (.inr (some (331)))]) rfl ?_
  refine sd_b_pi (k := 18) sd_o_331 rfl rfl rfl rfl rfl ?_
  cases h
  exact sd_b_rt rfl rfl rfl
theorem m_X10_push {X : Nat → List sd_V → List sd_E → sd_A → Prop} {d : Nat} (hd : 1 ≤ d) {p1 : Int} {M : sd_M} {Rr : Int × sd_M} (h : f_X10_push p1 M = some Rr) : sd_Cal X d 169 [.inr (.inr (some (331))), .inr (.inl (p1))] (sd_rp M) (none, sd_rp Rr.2, 0, 0) := by
  obtain ⟨d, rfl⟩ : ∃ d2, d = d2 + 1 := ⟨d - 1, by omega⟩
  exact sd_cal_of sd_i_X10_push (Nat.le_of_ble_eq_true rfl) (t_X10_push (by omega) p1 M Rr h)
-- X10_pop
def sd_q_X10_pop : sd_MI := (yX10_pop, cX10_pop, 1, (some .long), 10, 0, sd_t_X10_pop)
set_option maxRecDepth 4000 in
theorem sd_i_X10_pop : sd_mL[170]? = some sd_q_X10_pop := rfl
def f_X10_pop (M : sd_M) : Option (Int × sd_M) := if 0 ≤ (sd_s M 331 18 (sd_w ((M 331 18) - 1)) 331 18) ∧ (sd_s M 331 18 (sd_w ((M 331 18) - 1)) 331 18) < 64 then (some ((sd_s M 331 18 (sd_w ((M 331 18) - 1))) 339 (sd_s M 331 18 (sd_w ((M 331 18) - 1)) 331 18).toNat, sd_s M 331 18 (sd_w ((M 331 18) - 1)))) else none
set_option maxRecDepth 4000 in
theorem t_X10_pop {X : Nat → List sd_V → List sd_E → sd_A → Prop} {d : Nat} (hd : 0 ≤ d) (M : sd_M) (Rr : Int × sd_M) (h : f_X10_pop M = some Rr) : sd_B X d sd_q_X10_pop 0 [(0, .inr (.inr (some (331))))] [] M (some (.inr (.inl Rr.1)), sd_rp Rr.2, 0, 0) := by
  unfold f_X10_pop at h
  refine sd_b_go 2 (pc2 := 2) (lv2 := [(0, .inr (.inr (some (331))))]) (st2 := [.inr (.inr (some (331))), .inr (.inr (some (331)))]) rfl ?_
  refine sd_b_gi (k := 18) sd_o_331 rfl rfl rfl ?_
  refine sd_b_go 2 (pc2 := 7) (lv2 := [(0, .inr (.inr (some (331))))]) (st2 := [.inl (sd_w ((M 331 18) - 1)), .inr (.inr (some (331)))]) rfl ?_
  refine sd_b_pi (k := 18) sd_o_331 rfl rfl rfl rfl rfl ?_
  refine sd_b_go 1 (pc2 := 11) (lv2 := [(0, .inr (.inr (some (331))))]) (st2 := [.inr (.inr (some (331)))]) rfl ?_
  refine sd_b_gr (k := 17) sd_o_331 rfl rfl rfl ?_
  refine sd_b_go 1 (pc2 := 15) (lv2 := [(0, .inr (.inr (some (331))))]) (st2 := [.inr (.inr (some (331))), .inr (.inr (some (339)))]) rfl ?_
  refine sd_b_gi (k := 18) sd_o_331 rfl rfl rfl ?_
  obtain ⟨g1, h⟩ := sd_if h
  refine sd_b_al (sd_oa sd_o_331 (by decide) (off := 8) (List.mem_of_getElem? (i := 7) rfl)) g1 rfl ?_
  cases h
  exact sd_b_rt rfl rfl rfl
theorem m_X10_pop {X : Nat → List sd_V → List sd_E → sd_A → Prop} {d : Nat} (hd : 1 ≤ d) {M : sd_M} {Rr : Int × sd_M} (h : f_X10_pop M = some Rr) : sd_Cal X d 170 [.inr (.inr (some (331)))] (sd_rp M) (some (.inr (.inl Rr.1)), sd_rp Rr.2, 0, 0) := by
  obtain ⟨d, rfl⟩ : ∃ d2, d = d2 + 1 := ⟨d - 1, by omega⟩
  exact sd_cal_of sd_i_X10_pop (Nat.le_of_ble_eq_true rfl) (t_X10_pop (by omega) M Rr h)
-- X10_one
def sd_q_X10_one : sd_MI := (yX10_one, cX10_one, 5, (some .long), 10, 3, sd_t_X10_one)
set_option maxRecDepth 4000 in
theorem sd_i_X10_one : sd_mL[171]? = some sd_q_X10_one := rfl
def f_X10_one (p0 : Int) (p1 : Int) (p2 : Int) (M : sd_M) : Option (Int × sd_M) := if p0 = 2 then (some (sd_wl (p1 + p2), M)) else (if p0 = 3 then (some (sd_wl (p1 - p2), M)) else (if p0 = 4 then (some (sd_wl (p1 * p2), M)) else (if p0 = 5 then (if (sd_cmpl p2 0) = 0 then (some (0, M)) else (if p2 ≠ 0 then (some (sd_wl (Int.tdiv p1 p2), M)) else none)) else (if p0 = 6 then (if 0 ≤ (sd_cmpl p1 p2) then (some (0, M)) else (some (1, M))) else (if p0 = 7 then (if 0 < (sd_cmpl p1 p2) then (some (0, M)) else (some (1, M))) else (if p0 = 8 then (if (sd_cmpl p1 p2) = 0 then (some (1, M)) else (some (0, M))) else (if p0 = 9 then (if (sd_cmpl p1 p2) < 0 then (some (0, M)) else (some (1, M))) else (if p0 = 10 then (if (sd_cmpl p1 p2) ≤ 0 then (some (0, M)) else (some (1, M))) else (if p0 = 11 then (some (sd_lorl (p1) (p2), M)) else (if p0 = 12 then (some (sd_landl (p1) (p2), M)) else (if p0 = 13 then (some (sd_lorl (p1) (p2), M)) else (if p0 = 14 then (if (sd_cmpl p2 0) = 0 then (some (0, M)) else (if p2 ≠ 0 then (some (Int.tmod p1 p2, M)) else none)) else (some (sd_lorl (p1) (p2), M))))))))))))))
set_option maxRecDepth 4000 in
theorem t_X10_one {X : Nat → List sd_V → List sd_E → sd_A → Prop} {d : Nat} (hd : 0 ≤ d) (p0 : Int) (p1 : Int) (p2 : Int) (M : sd_M) (Rr : Int × sd_M) (h : f_X10_one p0 p1 p2 M = some Rr) : sd_B X d sd_q_X10_one 0 [(0, .inl (p0)), (1, .inr (.inl (p1))), (3, .inr (.inl (p2)))] [] M (some (.inr (.inl Rr.1)), sd_rp Rr.2, 0, 0) := by
  unfold f_X10_one at h
  refine sd_b_go 1 (pc2 := 1) (lv2 := [(0, .inl (p0)), (1, .inr (.inl (p1))), (3, .inr (.inl (p2)))]) (st2 := [.inl (p0)]) rfl ?_
  by_cases c1 : p0 = 2
  · rw [if_pos c1] at h
    refine sd_b_eq c1 ?_
    refine sd_b_go 1 (pc2 := 68) (lv2 := [(0, .inl (p0)), (1, .inr (.inl (p1))), (3, .inr (.inl (p2)))]) (st2 := []) rfl ?_
    refine sd_b_go 3 (pc2 := 71) (lv2 := [(0, .inl (p0)), (1, .inr (.inl (p1))), (3, .inr (.inl (p2)))]) (st2 := [.inr (.inl (sd_wl (p1 + p2)))]) rfl ?_
    cases h
    exact sd_b_rt rfl rfl rfl
  · rw [if_neg c1] at h
    by_cases c2 : p0 = 3
    · rw [if_pos c2] at h
      refine sd_b_eq c2 ?_
      refine sd_b_go 1 (pc2 := 72) (lv2 := [(0, .inl (p0)), (1, .inr (.inl (p1))), (3, .inr (.inl (p2)))]) (st2 := []) rfl ?_
      refine sd_b_go 3 (pc2 := 75) (lv2 := [(0, .inl (p0)), (1, .inr (.inl (p1))), (3, .inr (.inl (p2)))]) (st2 := [.inr (.inl (sd_wl (p1 - p2)))]) rfl ?_
      cases h
      exact sd_b_rt rfl rfl rfl
    · rw [if_neg c2] at h
      by_cases c3 : p0 = 4
      · rw [if_pos c3] at h
        refine sd_b_eq c3 ?_
        refine sd_b_go 1 (pc2 := 76) (lv2 := [(0, .inl (p0)), (1, .inr (.inl (p1))), (3, .inr (.inl (p2)))]) (st2 := []) rfl ?_
        refine sd_b_go 3 (pc2 := 79) (lv2 := [(0, .inl (p0)), (1, .inr (.inl (p1))), (3, .inr (.inl (p2)))]) (st2 := [.inr (.inl (sd_wl (p1 * p2)))]) rfl ?_
        cases h
        exact sd_b_rt rfl rfl rfl
      · rw [if_neg c3] at h
        by_cases c4 : p0 = 5
        · rw [if_pos c4] at h
          refine sd_b_eq c4 ?_
          refine sd_b_go 1 (pc2 := 80) (lv2 := [(0, .inl (p0)), (1, .inr (.inl (p1))), (3, .inr (.inl (p2)))]) (st2 := []) rfl ?_
          refine sd_b_go 3 (pc2 := 83) (lv2 := [(0, .inl (p0)), (1, .inr (.inl (p1))), (3, .inr (.inl (p2)))]) (st2 := [.inl (sd_cmpl p2 0)]) rfl ?_
          by_cases c5 : (sd_cmpl p2 0) = 0
          · rw [if_pos c5] at h
            refine sd_b_zf (c := .ne) rfl (decide_eq_false (not_not_intro c5)) (by decide) ?_
            refine sd_b_go 2 (pc2 := 93) (lv2 := [(0, .inl (p0)), (1, .inr (.inl (p1))), (3, .inr (.inl (p2)))]) (st2 := [.inr (.inl (0))]) rfl ?_
            cases h
            exact sd_b_rt rfl rfl rfl
          · rw [if_neg c5] at h
            refine sd_b_zt (c := .ne) (tgt := 90) rfl (decide_eq_true c5) (by decide) ?_
            refine sd_b_go 2 (pc2 := 92) (lv2 := [(0, .inl (p0)), (1, .inr (.inl (p1))), (3, .inr (.inl (p2)))]) (st2 := [.inr (.inl (p2)), .inr (.inl (p1))]) rfl ?_
            obtain ⟨g6, h⟩ := sd_if h
            refine sd_b_ldz g6 rfl ?_
            cases h
            exact sd_b_rt rfl rfl rfl
        · rw [if_neg c4] at h
          by_cases c7 : p0 = 6
          · rw [if_pos c7] at h
            refine sd_b_eq c7 ?_
            refine sd_b_go 1 (pc2 := 108) (lv2 := [(0, .inl (p0)), (1, .inr (.inl (p1))), (3, .inr (.inl (p2)))]) (st2 := []) rfl ?_
            refine sd_b_go 3 (pc2 := 111) (lv2 := [(0, .inl (p0)), (1, .inr (.inl (p1))), (3, .inr (.inl (p2)))]) (st2 := [.inl (sd_cmpl p1 p2)]) rfl ?_
            by_cases c8 : 0 ≤ (sd_cmpl p1 p2)
            · rw [if_pos c8] at h
              refine sd_b_zt (c := .ge) (tgt := 118) rfl (decide_eq_true c8) (by decide) ?_
              refine sd_b_go 1 (pc2 := 119) (lv2 := [(0, .inl (p0)), (1, .inr (.inl (p1))), (3, .inr (.inl (p2)))]) (st2 := [.inr (.inl (0))]) rfl ?_
              cases h
              exact sd_b_rt rfl rfl rfl
            · rw [if_neg c8] at h
              refine sd_b_zf (c := .ge) rfl (decide_eq_false c8) (by decide) ?_
              refine sd_b_go 2 (pc2 := 119) (lv2 := [(0, .inl (p0)), (1, .inr (.inl (p1))), (3, .inr (.inl (p2)))]) (st2 := [.inr (.inl (1))]) rfl ?_
              cases h
              exact sd_b_rt rfl rfl rfl
          · rw [if_neg c7] at h
            by_cases c9 : p0 = 7
            · rw [if_pos c9] at h
              refine sd_b_eq c9 ?_
              refine sd_b_go 1 (pc2 := 120) (lv2 := [(0, .inl (p0)), (1, .inr (.inl (p1))), (3, .inr (.inl (p2)))]) (st2 := []) rfl ?_
              refine sd_b_go 3 (pc2 := 123) (lv2 := [(0, .inl (p0)), (1, .inr (.inl (p1))), (3, .inr (.inl (p2)))]) (st2 := [.inl (sd_cmpl p1 p2)]) rfl ?_
              by_cases c10 : 0 < (sd_cmpl p1 p2)
              · rw [if_pos c10] at h
                refine sd_b_zt (c := .gt) (tgt := 130) rfl (decide_eq_true c10) (by decide) ?_
                refine sd_b_go 1 (pc2 := 131) (lv2 := [(0, .inl (p0)), (1, .inr (.inl (p1))), (3, .inr (.inl (p2)))]) (st2 := [.inr (.inl (0))]) rfl ?_
                cases h
                exact sd_b_rt rfl rfl rfl
              · rw [if_neg c10] at h
                refine sd_b_zf (c := .gt) rfl (decide_eq_false c10) (by decide) ?_
                refine sd_b_go 2 (pc2 := 131) (lv2 := [(0, .inl (p0)), (1, .inr (.inl (p1))), (3, .inr (.inl (p2)))]) (st2 := [.inr (.inl (1))]) rfl ?_
                cases h
                exact sd_b_rt rfl rfl rfl
            · rw [if_neg c9] at h
              by_cases c11 : p0 = 8
              · rw [if_pos c11] at h
                refine sd_b_eq c11 ?_
                refine sd_b_go 1 (pc2 := 132) (lv2 := [(0, .inl (p0)), (1, .inr (.inl (p1))), (3, .inr (.inl (p2)))]) (st2 := []) rfl ?_
                refine sd_b_go 3 (pc2 := 135) (lv2 := [(0, .inl (p0)), (1, .inr (.inl (p1))), (3, .inr (.inl (p2)))]) (st2 := [.inl (sd_cmpl p1 p2)]) rfl ?_
                by_cases c12 : (sd_cmpl p1 p2) = 0
                · rw [if_pos c12] at h
                  refine sd_b_zf (c := .ne) rfl (decide_eq_false (not_not_intro c12)) (by decide) ?_
                  refine sd_b_go 2 (pc2 := 143) (lv2 := [(0, .inl (p0)), (1, .inr (.inl (p1))), (3, .inr (.inl (p2)))]) (st2 := [.inr (.inl (1))]) rfl ?_
                  cases h
                  exact sd_b_rt rfl rfl rfl
                · rw [if_neg c12] at h
                  refine sd_b_zt (c := .ne) (tgt := 142) rfl (decide_eq_true c12) (by decide) ?_
                  refine sd_b_go 1 (pc2 := 143) (lv2 := [(0, .inl (p0)), (1, .inr (.inl (p1))), (3, .inr (.inl (p2)))]) (st2 := [.inr (.inl (0))]) rfl ?_
                  cases h
                  exact sd_b_rt rfl rfl rfl
              · rw [if_neg c11] at h
                by_cases c13 : p0 = 9
                · rw [if_pos c13] at h
                  refine sd_b_eq c13 ?_
                  refine sd_b_go 1 (pc2 := 144) (lv2 := [(0, .inl (p0)), (1, .inr (.inl (p1))), (3, .inr (.inl (p2)))]) (st2 := []) rfl ?_
                  refine sd_b_go 3 (pc2 := 147) (lv2 := [(0, .inl (p0)), (1, .inr (.inl (p1))), (3, .inr (.inl (p2)))]) (st2 := [.inl (sd_cmpl p1 p2)]) rfl ?_
                  by_cases c14 : (sd_cmpl p1 p2) < 0
                  · rw [if_pos c14] at h
                    refine sd_b_zt (c := .lt) (tgt := 154) rfl (decide_eq_true c14) (by decide) ?_
                    refine sd_b_go 1 (pc2 := 155) (lv2 := [(0, .inl (p0)), (1, .inr (.inl (p1))), (3, .inr (.inl (p2)))]) (st2 := [.inr (.inl (0))]) rfl ?_
                    cases h
                    exact sd_b_rt rfl rfl rfl
                  · rw [if_neg c14] at h
                    refine sd_b_zf (c := .lt) rfl (decide_eq_false c14) (by decide) ?_
                    refine sd_b_go 2 (pc2 := 155) (lv2 := [(0, .inl (p0)), (1, .inr (.inl (p1))), (3, .inr (.inl (p2)))]) (st2 := [.inr (.inl (1))]) rfl ?_
                    cases h
                    exact sd_b_rt rfl rfl rfl
                · rw [if_neg c13] at h
                  by_cases c15 : p0 = 10
                  · rw [if_pos c15] at h
                    refine sd_b_eq c15 ?_
                    refine sd_b_go 1 (pc2 := 156) (lv2 := [(0, .inl (p0)), (1, .inr (.inl (p1))), (3, .inr (.inl (p2)))]) (st2 := []) rfl ?_
                    refine sd_b_go 3 (pc2 := 159) (lv2 := [(0, .inl (p0)), (1, .inr (.inl (p1))), (3, .inr (.inl (p2)))]) (st2 := [.inl (sd_cmpl p1 p2)]) rfl ?_
                    by_cases c16 : (sd_cmpl p1 p2) ≤ 0
                    · rw [if_pos c16] at h
                      refine sd_b_zt (c := .le) (tgt := 166) rfl (decide_eq_true c16) (by decide) ?_
                      refine sd_b_go 1 (pc2 := 167) (lv2 := [(0, .inl (p0)), (1, .inr (.inl (p1))), (3, .inr (.inl (p2)))]) (st2 := [.inr (.inl (0))]) rfl ?_
                      cases h
                      exact sd_b_rt rfl rfl rfl
                    · rw [if_neg c16] at h
                      refine sd_b_zf (c := .le) rfl (decide_eq_false c16) (by decide) ?_
                      refine sd_b_go 2 (pc2 := 167) (lv2 := [(0, .inl (p0)), (1, .inr (.inl (p1))), (3, .inr (.inl (p2)))]) (st2 := [.inr (.inl (1))]) rfl ?_
                      cases h
                      exact sd_b_rt rfl rfl rfl
                  · rw [if_neg c15] at h
                    by_cases c17 : p0 = 11
                    · rw [if_pos c17] at h
                      refine sd_b_eq c17 ?_
                      refine sd_b_go 1 (pc2 := 172) (lv2 := [(0, .inl (p0)), (1, .inr (.inl (p1))), (3, .inr (.inl (p2)))]) (st2 := []) rfl ?_
                      refine sd_b_go 3 (pc2 := 175) (lv2 := [(0, .inl (p0)), (1, .inr (.inl (p1))), (3, .inr (.inl (p2)))]) (st2 := [.inr (.inl (sd_lorl (p1) (p2)))]) rfl ?_
                      cases h
                      exact sd_b_rt rfl rfl rfl
                    · rw [if_neg c17] at h
                      by_cases c18 : p0 = 12
                      · rw [if_pos c18] at h
                        refine sd_b_eq c18 ?_
                        refine sd_b_go 1 (pc2 := 168) (lv2 := [(0, .inl (p0)), (1, .inr (.inl (p1))), (3, .inr (.inl (p2)))]) (st2 := []) rfl ?_
                        refine sd_b_go 3 (pc2 := 171) (lv2 := [(0, .inl (p0)), (1, .inr (.inl (p1))), (3, .inr (.inl (p2)))]) (st2 := [.inr (.inl (sd_landl (p1) (p2)))]) rfl ?_
                        cases h
                        exact sd_b_rt rfl rfl rfl
                      · rw [if_neg c18] at h
                        by_cases c19 : p0 = 13
                        · rw [if_pos c19] at h
                          refine sd_b_eq c19 ?_
                          refine sd_b_go 1 (pc2 := 172) (lv2 := [(0, .inl (p0)), (1, .inr (.inl (p1))), (3, .inr (.inl (p2)))]) (st2 := []) rfl ?_
                          refine sd_b_go 3 (pc2 := 175) (lv2 := [(0, .inl (p0)), (1, .inr (.inl (p1))), (3, .inr (.inl (p2)))]) (st2 := [.inr (.inl (sd_lorl (p1) (p2)))]) rfl ?_
                          cases h
                          exact sd_b_rt rfl rfl rfl
                        · rw [if_neg c19] at h
                          by_cases c20 : p0 = 14
                          · rw [if_pos c20] at h
                            refine sd_b_eq c20 ?_
                            refine sd_b_go 1 (pc2 := 94) (lv2 := [(0, .inl (p0)), (1, .inr (.inl (p1))), (3, .inr (.inl (p2)))]) (st2 := []) rfl ?_
                            refine sd_b_go 3 (pc2 := 97) (lv2 := [(0, .inl (p0)), (1, .inr (.inl (p1))), (3, .inr (.inl (p2)))]) (st2 := [.inl (sd_cmpl p2 0)]) rfl ?_
                            by_cases c21 : (sd_cmpl p2 0) = 0
                            · rw [if_pos c21] at h
                              refine sd_b_zf (c := .ne) rfl (decide_eq_false (not_not_intro c21)) (by decide) ?_
                              refine sd_b_go 2 (pc2 := 107) (lv2 := [(0, .inl (p0)), (1, .inr (.inl (p1))), (3, .inr (.inl (p2)))]) (st2 := [.inr (.inl (0))]) rfl ?_
                              cases h
                              exact sd_b_rt rfl rfl rfl
                            · rw [if_neg c21] at h
                              refine sd_b_zt (c := .ne) (tgt := 104) rfl (decide_eq_true c21) (by decide) ?_
                              refine sd_b_go 2 (pc2 := 106) (lv2 := [(0, .inl (p0)), (1, .inr (.inl (p1))), (3, .inr (.inl (p2)))]) (st2 := [.inr (.inl (p2)), .inr (.inl (p1))]) rfl ?_
                              obtain ⟨g22, h⟩ := sd_if h
                              refine sd_b_lmz g22 rfl ?_
                              cases h
                              exact sd_b_rt rfl rfl rfl
                          · rw [if_neg c20] at h
                            refine sd_b_td (tgt := 172) rfl (by omega) (by decide) ?_
                            refine sd_b_go 3 (pc2 := 175) (lv2 := [(0, .inl (p0)), (1, .inr (.inl (p1))), (3, .inr (.inl (p2)))]) (st2 := [.inr (.inl (sd_lorl (p1) (p2)))]) rfl ?_
                            cases h
                            exact sd_b_rt rfl rfl rfl
theorem m_X10_one {X : Nat → List sd_V → List sd_E → sd_A → Prop} {d : Nat} (hd : 1 ≤ d) {p0 : Int} {p1 : Int} {p2 : Int} {M : sd_M} {Rr : Int × sd_M} (h : f_X10_one p0 p1 p2 M = some Rr) : sd_Cal X d 171 [.inl (p0), .inr (.inl (p1)), .inr (.inl (p2))] (sd_rp M) (some (.inr (.inl Rr.1)), sd_rp Rr.2, 0, 0) := by
  obtain ⟨d, rfl⟩ : ∃ d2, d = d2 + 1 := ⟨d - 1, by omega⟩
  exact sd_cal_of sd_i_X10_one (Nat.le_of_ble_eq_true rfl) (t_X10_one (by omega) p0 p1 p2 M Rr h)
-- X10_reckons
def sd_q_X10_reckons : sd_MI := (yX10_reckons, cX10_reckons, 11, (some .long), 10, 3, sd_t_X10_reckons)
set_option maxRecDepth 4000 in
theorem sd_i_X10_reckons : sd_mL[172]? = some sd_q_X10_reckons := rfl
def f_X10_reckons_129 (k8 : Int → Int → Int → sd_M → Option (Int × sd_M)) (k135 : sd_M → Option (Int × sd_M)) (v1 : Int) (v3 : Int) (v4 : Int) (M : sd_M) : Option (Int × sd_M) := k8 v1 v3 (sd_w (v4 + 1)) M
set_option maxRecDepth 4000 in
theorem t_X10_reckons_129 {X : Nat → List sd_V → List sd_E → sd_A → Prop} {d : Nat} (hd : 1 ≤ d) (k8 : Int → Int → Int → sd_M → Option (Int × sd_M)) (k135 : sd_M → Option (Int × sd_M)) (hk8 : ∀ (v1 : Int) (v3 : Int) (v4 : Int) (M : sd_M) (Rr : Int × sd_M), k8 v1 v3 v4 M = some Rr → sd_B X d sd_q_X10_reckons 8 [(0, .inr (.inr (some (331)))), (1, .inl (v1)), (3, .inl (v3)), (4, .inl (v4))] [] M (some (.inr (.inl Rr.1)), sd_rp Rr.2, 0, 0)) (hk135 : ∀ (M : sd_M) (Rr : Int × sd_M), k135 M = some Rr → sd_B X d sd_q_X10_reckons 135 [(0, .inr (.inr (some (331))))] [] M (some (.inr (.inl Rr.1)), sd_rp Rr.2, 0, 0)) (v1 : Int) (v3 : Int) (v4 : Int) (M : sd_M) (Rr : Int × sd_M) (h : f_X10_reckons_129 k8 k135 v1 v3 v4 M = some Rr) : sd_B X d sd_q_X10_reckons 129 [(0, .inr (.inr (some (331)))), (1, .inl (v1)), (3, .inl (v3)), (4, .inl (v4))] [] M (some (.inr (.inl Rr.1)), sd_rp Rr.2, 0, 0) := by
  unfold f_X10_reckons_129 at h
  refine sd_b_go 2 (pc2 := 8) (lv2 := [(4, .inl (sd_w (v4 + 1))), (0, .inr (.inr (some (331)))), (1, .inl (v1)), (3, .inl (v3))]) (st2 := []) rfl ?_
  refine sd_b_wk [(0, .inr (.inr (some (331)))), (1, .inl (v1)), (3, .inl (v3)), (4, .inl (sd_w (v4 + 1)))] (List.forall_mem_cons.mpr ⟨rfl, (List.forall_mem_cons.mpr ⟨rfl, (List.forall_mem_cons.mpr ⟨rfl, (List.forall_mem_cons.mpr ⟨rfl, (fun _ h0 => absurd h0 List.not_mem_nil)⟩)⟩)⟩)⟩) ?_
  exact hk8 v1 v3 (sd_w (v4 + 1)) M _ h
def f_X10_reckons_8 (k135 : sd_M → Option (Int × sd_M)) : Nat → Int → Int → Int → sd_M → Option (Int × sd_M)
  | 0, _, _, _, _ => none
  | n + 1, v1, v3, v4, M => if v3 ≤ v4 then (k135 M) else (if 0 ≤ (sd_w ((sd_w (400 * v1)) + v4)) ∧ (sd_w ((sd_w (400 * v1)) + v4)) < 2400 then (if 0 ≤ (sd_w ((sd_w (400 * v1)) + v4)) ∧ (sd_w ((sd_w (400 * v1)) + v4)) < 2400 then (if (sd_and (M 333 (sd_w ((sd_w (400 * v1)) + v4)).toNat) (15)) = 0 then ((f_X10_push (sd_shr (M 333 (sd_w ((sd_w (400 * v1)) + v4)).toNat) (4)) M).bind fun r15 => f_X10_reckons_129 (f_X10_reckons_8 k135 n) k135 v1 v3 v4 r15.2) else (if (sd_and (M 333 (sd_w ((sd_w (400 * v1)) + v4)).toNat) (15)) = 1 then (if 0 ≤ (sd_shr (M 333 (sd_w ((sd_w (400 * v1)) + v4)).toNat) (4)) ∧ (sd_shr (M 333 (sd_w ((sd_w (400 * v1)) + v4)).toNat) (4)) < 11 then ((f_X10_push (M 340 (sd_shr (M 333 (sd_w ((sd_w (400 * v1)) + v4)).toNat) (4)).toNat) M).bind fun r14 => f_X10_reckons_129 (f_X10_reckons_8 k135 n) k135 v1 v3 v4 r14.2) else none) else (if (sd_and (M 333 (sd_w ((sd_w (400 * v1)) + v4)).toNat) (15)) = 11 then ((f_X10_pop M).bind fun r11 => (f_X10_push (sd_wl (1 - r11.1)) r11.2).bind fun r12 => f_X10_reckons_129 (f_X10_reckons_8 k135 n) k135 v1 v3 v4 r12.2) else ((f_X10_pop M).bind fun r7 => (f_X10_pop r7.2).bind fun r8 => (f_X10_one (sd_and (M 333 (sd_w ((sd_w (400 * v1)) + v4)).toNat) (15)) r8.1 r7.1 r8.2).bind fun r9 => (f_X10_push r9.1 r9.2).bind fun r10 => f_X10_reckons_129 (f_X10_reckons_8 k135 n) k135 v1 v3 v4 r10.2)))) else none) else none)
set_option maxRecDepth 4000 in
theorem t_X10_reckons_8 {X : Nat → List sd_V → List sd_E → sd_A → Prop} {d : Nat} (hd : 1 ≤ d) (k135 : sd_M → Option (Int × sd_M)) (hk135 : ∀ (M : sd_M) (Rr : Int × sd_M), k135 M = some Rr → sd_B X d sd_q_X10_reckons 135 [(0, .inr (.inr (some (331))))] [] M (some (.inr (.inl Rr.1)), sd_rp Rr.2, 0, 0)) : ∀ (n : Nat) (v1 : Int) (v3 : Int) (v4 : Int) (M : sd_M) (Rr : Int × sd_M), f_X10_reckons_8 k135 n v1 v3 v4 M = some Rr → sd_B X d sd_q_X10_reckons 8 [(0, .inr (.inr (some (331)))), (1, .inl (v1)), (3, .inl (v3)), (4, .inl (v4))] [] M (some (.inr (.inl Rr.1)), sd_rp Rr.2, 0, 0) := by
  intro n
  induction n with
  | zero => intro v1 v3 v4 M Rr h; cases h
  | succ n ih =>
    intro v1 v3 v4 M Rr h
    rw [f_X10_reckons_8] at h
    refine sd_b_go 2 (pc2 := 11) (lv2 := [(0, .inr (.inr (some (331)))), (1, .inl (v1)), (3, .inl (v3)), (4, .inl (v4))]) (st2 := [.inl (v3), .inl (v4)]) rfl ?_
    by_cases c1 : v3 ≤ v4
    · rw [if_pos c1] at h
      refine sd_b_ct (c := .ge) (tgt := 135) rfl (decide_eq_true c1) (by decide) ?_
      refine sd_b_wk [(0, .inr (.inr (some (331))))] (List.forall_mem_cons.mpr ⟨rfl, (fun _ h0 => absurd h0 List.not_mem_nil)⟩) ?_
      exact hk135 M _ h
    · rw [if_neg c1] at h
      refine sd_b_cf (c := .ge) rfl (decide_eq_false c1) (by decide) ?_
      refine sd_b_go 1 (pc2 := 15) (lv2 := [(0, .inr (.inr (some (331)))), (1, .inl (v1)), (3, .inl (v3)), (4, .inl (v4))]) (st2 := [.inr (.inr (some (331)))]) rfl ?_
      refine sd_b_gr (k := 3) sd_o_331 rfl rfl rfl ?_
      refine sd_b_go 5 (pc2 := 26) (lv2 := [(0, .inr (.inr (some (331)))), (1, .inl (v1)), (3, .inl (v3)), (4, .inl (v4))]) (st2 := [.inl (sd_w ((sd_w (400 * v1)) + v4)), .inr (.inr (some (333)))]) rfl ?_
      obtain ⟨g2, h⟩ := sd_if h
      refine sd_b_ai (sd_oa sd_o_331 (by decide) (off := 2) (List.mem_of_getElem? (i := 1) rfl)) g2 rfl ?_
      refine sd_b_go 4 (pc2 := 33) (lv2 := [(5, .inl (sd_and (M 333 (sd_w ((sd_w (400 * v1)) + v4)).toNat) (15))), (0, .inr (.inr (some (331)))), (1, .inl (v1)), (3, .inl (v3)), (4, .inl (v4))]) (st2 := [.inr (.inr (some (331)))]) rfl ?_
      refine sd_b_gr (k := 3) sd_o_331 rfl rfl rfl ?_
      refine sd_b_go 5 (pc2 := 44) (lv2 := [(5, .inl (sd_and (M 333 (sd_w ((sd_w (400 * v1)) + v4)).toNat) (15))), (0, .inr (.inr (some (331)))), (1, .inl (v1)), (3, .inl (v3)), (4, .inl (v4))]) (st2 := [.inl (sd_w ((sd_w (400 * v1)) + v4)), .inr (.inr (some (333)))]) rfl ?_
      obtain ⟨g3, h⟩ := sd_if h
      refine sd_b_ai (sd_oa sd_o_331 (by decide) (off := 2) (List.mem_of_getElem? (i := 1) rfl)) g3 rfl ?_
      refine sd_b_go 4 (pc2 := 51) (lv2 := [(6, .inl (sd_shr (M 333 (sd_w ((sd_w (400 * v1)) + v4)).toNat) (4))), (5, .inl (sd_and (M 333 (sd_w ((sd_w (400 * v1)) + v4)).toNat) (15))), (0, .inr (.inr (some (331)))), (1, .inl (v1)), (3, .inl (v3)), (4, .inl (v4))]) (st2 := [.inl (sd_and (M 333 (sd_w ((sd_w (400 * v1)) + v4)).toNat) (15))]) rfl ?_
      by_cases c4 : (sd_and (M 333 (sd_w ((sd_w (400 * v1)) + v4)).toNat) (15)) = 0
      · rw [if_pos c4] at h
        refine sd_b_zf (c := .ne) rfl (decide_eq_false (not_not_intro c4)) (by decide) ?_
        refine sd_b_go 3 (pc2 := 58) (lv2 := [(6, .inl (sd_shr (M 333 (sd_w ((sd_w (400 * v1)) + v4)).toNat) (4))), (5, .inl (sd_and (M 333 (sd_w ((sd_w (400 * v1)) + v4)).toNat) (15))), (0, .inr (.inr (some (331)))), (1, .inl (v1)), (3, .inl (v3)), (4, .inl (v4))]) (st2 := [.inr (.inl (sd_shr (M 333 (sd_w ((sd_w (400 * v1)) + v4)).toNat) (4))), .inr (.inr (some (331)))]) rfl ?_
        obtain ⟨r15, e15, h⟩ := sd_bnd h
        refine sd_b_call [.inr (.inr (some (331))), .inr (.inl (sd_shr (M 333 (sd_w ((sd_w (400 * v1)) + v4)).toNat) (4)))] [] rfl rfl sd_i_X10_push rfl rfl (Nat.le_of_ble_eq_true rfl) (sd_rc_v sd_o_331) (m_X10_push (by omega) e15) ?_
        refine sd_b_go 1 (pc2 := 129) (lv2 := [(6, .inl (sd_shr (M 333 (sd_w ((sd_w (400 * v1)) + v4)).toNat) (4))), (5, .inl (sd_and (M 333 (sd_w ((sd_w (400 * v1)) + v4)).toNat) (15))), (0, .inr (.inr (some (331)))), (1, .inl (v1)), (3, .inl (v3)), (4, .inl (v4))]) (st2 := []) rfl ?_
        refine sd_b_wk [(0, .inr (.inr (some (331)))), (1, .inl (v1)), (3, .inl (v3)), (4, .inl (v4))] (List.forall_mem_cons.mpr ⟨rfl, (List.forall_mem_cons.mpr ⟨rfl, (List.forall_mem_cons.mpr ⟨rfl, (List.forall_mem_cons.mpr ⟨rfl, (fun _ h0 => absurd h0 List.not_mem_nil)⟩)⟩)⟩)⟩) ?_
        exact t_X10_reckons_129 hd (f_X10_reckons_8 k135 n) k135 ih hk135 v1 v3 v4 r15.2 _ h
      · rw [if_neg c4] at h
        refine sd_b_zt (c := .ne) (tgt := 64) rfl (decide_eq_true c4) (by decide) ?_
        refine sd_b_go 2 (pc2 := 67) (lv2 := [(6, .inl (sd_shr (M 333 (sd_w ((sd_w (400 * v1)) + v4)).toNat) (4))), (5, .inl (sd_and (M 333 (sd_w ((sd_w (400 * v1)) + v4)).toNat) (15))), (0, .inr (.inr (some (331)))), (1, .inl (v1)), (3, .inl (v3)), (4, .inl (v4))]) (st2 := [.inl (1), .inl (sd_and (M 333 (sd_w ((sd_w (400 * v1)) + v4)).toNat) (15))]) rfl ?_
        by_cases c5 : (sd_and (M 333 (sd_w ((sd_w (400 * v1)) + v4)).toNat) (15)) = 1
        · rw [if_pos c5] at h
          refine sd_b_cf (c := .ne) rfl (decide_eq_false (not_not_intro c5)) (by decide) ?_
          refine sd_b_go 2 (pc2 := 72) (lv2 := [(6, .inl (sd_shr (M 333 (sd_w ((sd_w (400 * v1)) + v4)).toNat) (4))), (5, .inl (sd_and (M 333 (sd_w ((sd_w (400 * v1)) + v4)).toNat) (15))), (0, .inr (.inr (some (331)))), (1, .inl (v1)), (3, .inl (v3)), (4, .inl (v4))]) (st2 := [.inr (.inr (some (331))), .inr (.inr (some (331)))]) rfl ?_
          refine sd_b_gr (k := 19) sd_o_331 rfl rfl rfl ?_
          refine sd_b_go 1 (pc2 := 77) (lv2 := [(6, .inl (sd_shr (M 333 (sd_w ((sd_w (400 * v1)) + v4)).toNat) (4))), (5, .inl (sd_and (M 333 (sd_w ((sd_w (400 * v1)) + v4)).toNat) (15))), (0, .inr (.inr (some (331)))), (1, .inl (v1)), (3, .inl (v3)), (4, .inl (v4))]) (st2 := [.inl (sd_shr (M 333 (sd_w ((sd_w (400 * v1)) + v4)).toNat) (4)), .inr (.inr (some (340))), .inr (.inr (some (331)))]) rfl ?_
          obtain ⟨g13, h⟩ := sd_if h
          refine sd_b_al (sd_oa sd_o_331 (by decide) (off := 9) (List.mem_of_getElem? (i := 8) rfl)) g13 rfl ?_
          obtain ⟨r14, e14, h⟩ := sd_bnd h
          refine sd_b_call [.inr (.inr (some (331))), .inr (.inl (M 340 (sd_shr (M 333 (sd_w ((sd_w (400 * v1)) + v4)).toNat) (4)).toNat))] [] rfl rfl sd_i_X10_push rfl rfl (Nat.le_of_ble_eq_true rfl) (sd_rc_v sd_o_331) (m_X10_push (by omega) e14) ?_
          refine sd_b_go 1 (pc2 := 129) (lv2 := [(6, .inl (sd_shr (M 333 (sd_w ((sd_w (400 * v1)) + v4)).toNat) (4))), (5, .inl (sd_and (M 333 (sd_w ((sd_w (400 * v1)) + v4)).toNat) (15))), (0, .inr (.inr (some (331)))), (1, .inl (v1)), (3, .inl (v3)), (4, .inl (v4))]) (st2 := []) rfl ?_
          refine sd_b_wk [(0, .inr (.inr (some (331)))), (1, .inl (v1)), (3, .inl (v3)), (4, .inl (v4))] (List.forall_mem_cons.mpr ⟨rfl, (List.forall_mem_cons.mpr ⟨rfl, (List.forall_mem_cons.mpr ⟨rfl, (List.forall_mem_cons.mpr ⟨rfl, (fun _ h0 => absurd h0 List.not_mem_nil)⟩)⟩)⟩)⟩) ?_
          exact t_X10_reckons_129 hd (f_X10_reckons_8 k135 n) k135 ih hk135 v1 v3 v4 r14.2 _ h
        · rw [if_neg c5] at h
          refine sd_b_ct (c := .ne) (tgt := 84) rfl (decide_eq_true c5) (by decide) ?_
          refine sd_b_go 2 (pc2 := 88) (lv2 := [(6, .inl (sd_shr (M 333 (sd_w ((sd_w (400 * v1)) + v4)).toNat) (4))), (5, .inl (sd_and (M 333 (sd_w ((sd_w (400 * v1)) + v4)).toNat) (15))), (0, .inr (.inr (some (331)))), (1, .inl (v1)), (3, .inl (v3)), (4, .inl (v4))]) (st2 := [.inl (11), .inl (sd_and (M 333 (sd_w ((sd_w (400 * v1)) + v4)).toNat) (15))]) rfl ?_
          by_cases c6 : (sd_and (M 333 (sd_w ((sd_w (400 * v1)) + v4)).toNat) (15)) = 11
          · rw [if_pos c6] at h
            refine sd_b_cf (c := .ne) rfl (decide_eq_false (not_not_intro c6)) (by decide) ?_
            refine sd_b_go 3 (pc2 := 94) (lv2 := [(6, .inl (sd_shr (M 333 (sd_w ((sd_w (400 * v1)) + v4)).toNat) (4))), (5, .inl (sd_and (M 333 (sd_w ((sd_w (400 * v1)) + v4)).toNat) (15))), (0, .inr (.inr (some (331)))), (1, .inl (v1)), (3, .inl (v3)), (4, .inl (v4))]) (st2 := [.inr (.inr (some (331))), .inr (.inl (1)), .inr (.inr (some (331)))]) rfl ?_
            obtain ⟨r11, e11, h⟩ := sd_bnd h
            refine sd_b_call [.inr (.inr (some (331)))] [.inr (.inl (1)), .inr (.inr (some (331)))] rfl rfl sd_i_X10_pop rfl rfl (Nat.le_of_ble_eq_true rfl) (sd_rc_v sd_o_331) (m_X10_pop (by omega) e11) ?_
            refine sd_b_go 1 (pc2 := 98) (lv2 := [(6, .inl (sd_shr (M 333 (sd_w ((sd_w (400 * v1)) + v4)).toNat) (4))), (5, .inl (sd_and (M 333 (sd_w ((sd_w (400 * v1)) + v4)).toNat) (15))), (0, .inr (.inr (some (331)))), (1, .inl (v1)), (3, .inl (v3)), (4, .inl (v4))]) (st2 := [.inr (.inl (sd_wl (1 - r11.1))), .inr (.inr (some (331)))]) rfl ?_
            obtain ⟨r12, e12, h⟩ := sd_bnd h
            refine sd_b_call [.inr (.inr (some (331))), .inr (.inl (sd_wl (1 - r11.1)))] [] rfl rfl sd_i_X10_push rfl rfl (Nat.le_of_ble_eq_true rfl) (sd_rc_v sd_o_331) (m_X10_push (by omega) e12) ?_
            refine sd_b_go 1 (pc2 := 129) (lv2 := [(6, .inl (sd_shr (M 333 (sd_w ((sd_w (400 * v1)) + v4)).toNat) (4))), (5, .inl (sd_and (M 333 (sd_w ((sd_w (400 * v1)) + v4)).toNat) (15))), (0, .inr (.inr (some (331)))), (1, .inl (v1)), (3, .inl (v3)), (4, .inl (v4))]) (st2 := []) rfl ?_
            refine sd_b_wk [(0, .inr (.inr (some (331)))), (1, .inl (v1)), (3, .inl (v3)), (4, .inl (v4))] (List.forall_mem_cons.mpr ⟨rfl, (List.forall_mem_cons.mpr ⟨rfl, (List.forall_mem_cons.mpr ⟨rfl, (List.forall_mem_cons.mpr ⟨rfl, (fun _ h0 => absurd h0 List.not_mem_nil)⟩)⟩)⟩)⟩) ?_
            exact t_X10_reckons_129 hd (f_X10_reckons_8 k135 n) k135 ih hk135 v1 v3 v4 r12.2 _ h
          · rw [if_neg c6] at h
            refine sd_b_ct (c := .ne) (tgt := 104) rfl (decide_eq_true c6) (by decide) ?_
            refine sd_b_go 1 (pc2 := 105) (lv2 := [(6, .inl (sd_shr (M 333 (sd_w ((sd_w (400 * v1)) + v4)).toNat) (4))), (5, .inl (sd_and (M 333 (sd_w ((sd_w (400 * v1)) + v4)).toNat) (15))), (0, .inr (.inr (some (331)))), (1, .inl (v1)), (3, .inl (v3)), (4, .inl (v4))]) (st2 := [.inr (.inr (some (331)))]) rfl ?_
            obtain ⟨r7, e7, h⟩ := sd_bnd h
            refine sd_b_call [.inr (.inr (some (331)))] [] rfl rfl sd_i_X10_pop rfl rfl (Nat.le_of_ble_eq_true rfl) (sd_rc_v sd_o_331) (m_X10_pop (by omega) e7) ?_
            refine sd_b_go 2 (pc2 := 111) (lv2 := [(7, .inr (.inl (r7.1))), (6, .inl (sd_shr (M 333 (sd_w ((sd_w (400 * v1)) + v4)).toNat) (4))), (5, .inl (sd_and (M 333 (sd_w ((sd_w (400 * v1)) + v4)).toNat) (15))), (0, .inr (.inr (some (331)))), (1, .inl (v1)), (3, .inl (v3)), (4, .inl (v4))]) (st2 := [.inr (.inr (some (331)))]) rfl ?_
            obtain ⟨r8, e8, h⟩ := sd_bnd h
            refine sd_b_call [.inr (.inr (some (331)))] [] rfl rfl sd_i_X10_pop rfl rfl (Nat.le_of_ble_eq_true rfl) (sd_rc_v sd_o_331) (m_X10_pop (by omega) e8) ?_
            refine sd_b_go 5 (pc2 := 123) (lv2 := [(9, .inr (.inl (r8.1))), (7, .inr (.inl (r7.1))), (6, .inl (sd_shr (M 333 (sd_w ((sd_w (400 * v1)) + v4)).toNat) (4))), (5, .inl (sd_and (M 333 (sd_w ((sd_w (400 * v1)) + v4)).toNat) (15))), (0, .inr (.inr (some (331)))), (1, .inl (v1)), (3, .inl (v3)), (4, .inl (v4))]) (st2 := [.inr (.inl (r7.1)), .inr (.inl (r8.1)), .inl (sd_and (M 333 (sd_w ((sd_w (400 * v1)) + v4)).toNat) (15)), .inr (.inr (some (331)))]) rfl ?_
            obtain ⟨r9, e9, h⟩ := sd_bnd h
            refine sd_b_call [.inl (sd_and (M 333 (sd_w ((sd_w (400 * v1)) + v4)).toNat) (15)), .inr (.inl (r8.1)), .inr (.inl (r7.1))] [.inr (.inr (some (331)))] rfl rfl sd_i_X10_one rfl rfl (Nat.le_of_ble_eq_true rfl) rfl (m_X10_one (by omega) e9) ?_
            obtain ⟨r10, e10, h⟩ := sd_bnd h
            refine sd_b_call [.inr (.inr (some (331))), .inr (.inl (r9.1))] [] rfl rfl sd_i_X10_push rfl rfl (Nat.le_of_ble_eq_true rfl) (sd_rc_v sd_o_331) (m_X10_push (by omega) e10) ?_
            refine sd_b_wk [(0, .inr (.inr (some (331)))), (1, .inl (v1)), (3, .inl (v3)), (4, .inl (v4))] (List.forall_mem_cons.mpr ⟨rfl, (List.forall_mem_cons.mpr ⟨rfl, (List.forall_mem_cons.mpr ⟨rfl, (List.forall_mem_cons.mpr ⟨rfl, (fun _ h0 => absurd h0 List.not_mem_nil)⟩)⟩)⟩)⟩) ?_
            exact t_X10_reckons_129 hd (f_X10_reckons_8 k135 n) k135 ih hk135 v1 v3 v4 r10.2 _ h
def f_X10_reckons_135 (M : sd_M) : Option (Int × sd_M) := (f_X10_pop M).bind fun r1 => some (r1.1, r1.2)
set_option maxRecDepth 4000 in
theorem t_X10_reckons_135 {X : Nat → List sd_V → List sd_E → sd_A → Prop} {d : Nat} (hd : 1 ≤ d) (M : sd_M) (Rr : Int × sd_M) (h : f_X10_reckons_135 M = some Rr) : sd_B X d sd_q_X10_reckons 135 [(0, .inr (.inr (some (331))))] [] M (some (.inr (.inl Rr.1)), sd_rp Rr.2, 0, 0) := by
  unfold f_X10_reckons_135 at h
  refine sd_b_go 1 (pc2 := 136) (lv2 := [(0, .inr (.inr (some (331))))]) (st2 := [.inr (.inr (some (331)))]) rfl ?_
  obtain ⟨r1, e1, h⟩ := sd_bnd h
  refine sd_b_call [.inr (.inr (some (331)))] [] rfl rfl sd_i_X10_pop rfl rfl (Nat.le_of_ble_eq_true rfl) (sd_rc_v sd_o_331) (m_X10_pop (by omega) e1) ?_
  cases h
  exact sd_b_rt rfl rfl rfl
def f_X10_reckons (p1 : Int) (p2 : Int) (p3 : Int) (M : sd_M) : Option (Int × sd_M) := f_X10_reckons_8 (f_X10_reckons_135) 4000 p1 p3 p2 (sd_s M 331 18 0)
set_option maxRecDepth 4000 in
theorem t_X10_reckons {X : Nat → List sd_V → List sd_E → sd_A → Prop} {d : Nat} (hd : 1 ≤ d) (p1 : Int) (p2 : Int) (p3 : Int) (M : sd_M) (Rr : Int × sd_M) (h : f_X10_reckons p1 p2 p3 M = some Rr) : sd_B X d sd_q_X10_reckons 0 [(0, .inr (.inr (some (331)))), (1, .inl (p1)), (2, .inl (p2)), (3, .inl (p3))] [] M (some (.inr (.inl Rr.1)), sd_rp Rr.2, 0, 0) := by
  unfold f_X10_reckons at h
  refine sd_b_go 2 (pc2 := 2) (lv2 := [(0, .inr (.inr (some (331)))), (1, .inl (p1)), (2, .inl (p2)), (3, .inl (p3))]) (st2 := [.inl (0), .inr (.inr (some (331)))]) rfl ?_
  refine sd_b_pi (k := 18) sd_o_331 rfl rfl rfl rfl rfl ?_
  refine sd_b_go 2 (pc2 := 8) (lv2 := [(4, .inl (p2)), (0, .inr (.inr (some (331)))), (1, .inl (p1)), (2, .inl (p2)), (3, .inl (p3))]) (st2 := []) rfl ?_
  refine sd_b_wk [(0, .inr (.inr (some (331)))), (1, .inl (p1)), (3, .inl (p3)), (4, .inl (p2))] (List.forall_mem_cons.mpr ⟨rfl, (List.forall_mem_cons.mpr ⟨rfl, (List.forall_mem_cons.mpr ⟨rfl, (List.forall_mem_cons.mpr ⟨rfl, (fun _ h0 => absurd h0 List.not_mem_nil)⟩)⟩)⟩)⟩) ?_
  exact t_X10_reckons_8 hd (f_X10_reckons_135) (t_X10_reckons_135 hd) 4000 p1 p3 p2 (sd_s M 331 18 0) _ h
theorem m_X10_reckons {X : Nat → List sd_V → List sd_E → sd_A → Prop} {d : Nat} (hd : 2 ≤ d) {p1 : Int} {p2 : Int} {p3 : Int} {M : sd_M} {Rr : Int × sd_M} (h : f_X10_reckons p1 p2 p3 M = some Rr) : sd_Cal X d 172 [.inr (.inr (some (331))), .inl (p1), .inl (p2), .inl (p3)] (sd_rp M) (some (.inr (.inl Rr.1)), sd_rp Rr.2, 0, 0) := by
  obtain ⟨d, rfl⟩ : ∃ d2, d = d2 + 1 := ⟨d - 1, by omega⟩
  exact sd_cal_of sd_i_X10_reckons (Nat.le_of_ble_eq_true rfl) (t_X10_reckons (by omega) p1 p2 p3 M Rr h)
-- X10_isSlip
def sd_q_X10_isSlip : sd_MI := (yX10_isSlip, cX10_isSlip, 1, (some .boolean), 10, 0, sd_t_X10_isSlip)
set_option maxRecDepth 4000 in
theorem sd_i_X10_isSlip : sd_mL[173]? = some sd_q_X10_isSlip := rfl
def f_X10_isSlip (M : sd_M) : Option (Int × sd_M) := if (M 341 0) = 1 then (some (1, M)) else (some (0, M))
set_option maxRecDepth 4000 in
theorem t_X10_isSlip {X : Nat → List sd_V → List sd_E → sd_A → Prop} {d : Nat} (hd : 0 ≤ d) (M : sd_M) (Rr : Int × sd_M) (h : f_X10_isSlip M = some Rr) : sd_B X d sd_q_X10_isSlip 0 [(0, .inr (.inr (some (331))))] [] M (some (.inl Rr.1), sd_rp Rr.2, 0, 0) := by
  unfold f_X10_isSlip at h
  refine sd_b_go 1 (pc2 := 1) (lv2 := [(0, .inr (.inr (some (331))))]) (st2 := [.inr (.inr (some (331)))]) rfl ?_
  refine sd_b_gr (k := 20) sd_o_331 rfl rfl rfl ?_
  refine sd_b_go 1 (pc2 := 5) (lv2 := [(0, .inr (.inr (some (331))))]) (st2 := [.inl (0), .inr (.inr (some (341)))]) rfl ?_
  refine sd_b_ai (i := 0) (sd_oa sd_o_331 (by decide) (off := 10) (List.mem_of_getElem? (i := 9) rfl)) (by decide) rfl ?_
  refine sd_b_go 1 (pc2 := 7) (lv2 := [(0, .inr (.inr (some (331))))]) (st2 := [.inl (1), .inl (M 341 0)]) rfl ?_
  by_cases c1 : (M 341 0) = 1
  · rw [if_pos c1] at h
    refine sd_b_cf (c := .ne) rfl (decide_eq_false (not_not_intro c1)) (by decide) ?_
    refine sd_b_go 2 (pc2 := 15) (lv2 := [(0, .inr (.inr (some (331))))]) (st2 := [.inl (1)]) rfl ?_
    cases h
    exact sd_b_rt rfl rfl rfl
  · rw [if_neg c1] at h
    refine sd_b_ct (c := .ne) (tgt := 14) rfl (decide_eq_true c1) (by decide) ?_
    refine sd_b_go 1 (pc2 := 15) (lv2 := [(0, .inr (.inr (some (331))))]) (st2 := [.inl (0)]) rfl ?_
    cases h
    exact sd_b_rt rfl rfl rfl
theorem m_X10_isSlip {X : Nat → List sd_V → List sd_E → sd_A → Prop} {d : Nat} (hd : 1 ≤ d) {M : sd_M} {Rr : Int × sd_M} (h : f_X10_isSlip M = some Rr) : sd_Cal X d 173 [.inr (.inr (some (331)))] (sd_rp M) (some (.inl Rr.1), sd_rp Rr.2, 0, 0) := by
  obtain ⟨d, rfl⟩ : ∃ d2, d = d2 + 1 := ⟨d - 1, by omega⟩
  exact sd_cal_of sd_i_X10_isSlip (Nat.le_of_ble_eq_true rfl) (t_X10_isSlip (by omega) M Rr h)
-- X10_isOffer
def sd_q_X10_isOffer : sd_MI := (yX10_isOffer, cX10_isOffer, 2, (some .boolean), 10, 1, sd_t_X10_isOffer)
set_option maxRecDepth 4000 in
theorem sd_i_X10_isOffer : sd_mL[174]? = some sd_q_X10_isOffer := rfl
def f_X10_isOffer (p1 : Int) (M : sd_M) : Option (Int × sd_M) := if p1 < 0 then (some (0, M)) else (if (M 341 2) ≤ p1 then (some (0, M)) else (some (1, M)))
set_option maxRecDepth 4000 in
theorem t_X10_isOffer {X : Nat → List sd_V → List sd_E → sd_A → Prop} {d : Nat} (hd : 0 ≤ d) (p1 : Int) (M : sd_M) (Rr : Int × sd_M) (h : f_X10_isOffer p1 M = some Rr) : sd_B X d sd_q_X10_isOffer 0 [(0, .inr (.inr (some (331)))), (1, .inl (p1))] [] M (some (.inl Rr.1), sd_rp Rr.2, 0, 0) := by
  unfold f_X10_isOffer at h
  refine sd_b_go 1 (pc2 := 1) (lv2 := [(0, .inr (.inr (some (331)))), (1, .inl (p1))]) (st2 := [.inl (p1)]) rfl ?_
  by_cases c1 : p1 < 0
  · rw [if_pos c1] at h
    refine sd_b_zt (c := .lt) (tgt := 18) rfl (decide_eq_true c1) (by decide) ?_
    refine sd_b_go 1 (pc2 := 19) (lv2 := [(0, .inr (.inr (some (331)))), (1, .inl (p1))]) (st2 := [.inl (0)]) rfl ?_
    cases h
    exact sd_b_rt rfl rfl rfl
  · rw [if_neg c1] at h
    refine sd_b_zf (c := .lt) rfl (decide_eq_false c1) (by decide) ?_
    refine sd_b_go 2 (pc2 := 6) (lv2 := [(0, .inr (.inr (some (331)))), (1, .inl (p1))]) (st2 := [.inr (.inr (some (331))), .inl (p1)]) rfl ?_
    refine sd_b_gr (k := 20) sd_o_331 rfl rfl rfl ?_
    refine sd_b_go 1 (pc2 := 10) (lv2 := [(0, .inr (.inr (some (331)))), (1, .inl (p1))]) (st2 := [.inl (2), .inr (.inr (some (341))), .inl (p1)]) rfl ?_
    refine sd_b_ai (i := 2) (sd_oa sd_o_331 (by decide) (off := 10) (List.mem_of_getElem? (i := 9) rfl)) (by decide) rfl ?_
    by_cases c2 : (M 341 2) ≤ p1
    · rw [if_pos c2] at h
      refine sd_b_ct (c := .ge) (tgt := 18) rfl (decide_eq_true c2) (by decide) ?_
      refine sd_b_go 1 (pc2 := 19) (lv2 := [(0, .inr (.inr (some (331)))), (1, .inl (p1))]) (st2 := [.inl (0)]) rfl ?_
      cases h
      exact sd_b_rt rfl rfl rfl
    · rw [if_neg c2] at h
      refine sd_b_cf (c := .ge) rfl (decide_eq_false c2) (by decide) ?_
      refine sd_b_go 2 (pc2 := 19) (lv2 := [(0, .inr (.inr (some (331)))), (1, .inl (p1))]) (st2 := [.inl (1)]) rfl ?_
      cases h
      exact sd_b_rt rfl rfl rfl
theorem m_X10_isOffer {X : Nat → List sd_V → List sd_E → sd_A → Prop} {d : Nat} (hd : 1 ≤ d) {p1 : Int} {M : sd_M} {Rr : Int × sd_M} (h : f_X10_isOffer p1 M = some Rr) : sd_Cal X d 174 [.inr (.inr (some (331))), .inl (p1)] (sd_rp M) (some (.inl Rr.1), sd_rp Rr.2, 0, 0) := by
  obtain ⟨d, rfl⟩ : ∃ d2, d = d2 + 1 := ⟨d - 1, by omega⟩
  exact sd_cal_of sd_i_X10_isOffer (Nat.le_of_ble_eq_true rfl) (t_X10_isOffer (by omega) p1 M Rr h)
-- X10_isLine
def sd_q_X10_isLine : sd_MI := (yX10_isLine, cX10_isLine, 2, (some .boolean), 10, 1, sd_t_X10_isLine)
set_option maxRecDepth 4000 in
theorem sd_i_X10_isLine : sd_mL[175]? = some sd_q_X10_isLine := rfl
def f_X10_isLine (p1 : Int) (M : sd_M) : Option (Int × sd_M) := (f_X10_isOffer p1 M).bind fun r1 => if r1.1 = 0 then (some (0, r1.2)) else (if 0 ≤ (sd_w (71 + p1)) ∧ (sd_w (71 + p1)) < 128 then (if ((r1.2) 341 (sd_w (71 + p1)).toNat) = 1 then (some (1, r1.2)) else (some (0, r1.2))) else none)
set_option maxRecDepth 4000 in
theorem t_X10_isLine {X : Nat → List sd_V → List sd_E → sd_A → Prop} {d : Nat} (hd : 1 ≤ d) (p1 : Int) (M : sd_M) (Rr : Int × sd_M) (h : f_X10_isLine p1 M = some Rr) : sd_B X d sd_q_X10_isLine 0 [(0, .inr (.inr (some (331)))), (1, .inl (p1))] [] M (some (.inl Rr.1), sd_rp Rr.2, 0, 0) := by
  unfold f_X10_isLine at h
  refine sd_b_go 2 (pc2 := 2) (lv2 := [(0, .inr (.inr (some (331)))), (1, .inl (p1))]) (st2 := [.inl (p1), .inr (.inr (some (331)))]) rfl ?_
  obtain ⟨r1, e1, h⟩ := sd_bnd h
  refine sd_b_call [.inr (.inr (some (331))), .inl (p1)] [] rfl rfl sd_i_X10_isOffer rfl rfl (Nat.le_of_ble_eq_true rfl) (sd_rc_v sd_o_331) (m_X10_isOffer (by omega) e1) ?_
  by_cases c2 : r1.1 = 0
  · rw [if_pos c2] at h
    refine sd_b_zt (c := .eq) (tgt := 25) rfl (decide_eq_true c2) (by decide) ?_
    refine sd_b_go 1 (pc2 := 26) (lv2 := [(0, .inr (.inr (some (331)))), (1, .inl (p1))]) (st2 := [.inl (0)]) rfl ?_
    cases h
    exact sd_b_rt rfl rfl rfl
  · rw [if_neg c2] at h
    refine sd_b_zf (c := .eq) rfl (decide_eq_false c2) (by decide) ?_
    refine sd_b_go 1 (pc2 := 9) (lv2 := [(0, .inr (.inr (some (331)))), (1, .inl (p1))]) (st2 := [.inr (.inr (some (331)))]) rfl ?_
    refine sd_b_gr (k := 20) sd_o_331 rfl rfl rfl ?_
    refine sd_b_go 3 (pc2 := 16) (lv2 := [(0, .inr (.inr (some (331)))), (1, .inl (p1))]) (st2 := [.inl (sd_w (71 + p1)), .inr (.inr (some (341)))]) rfl ?_
    obtain ⟨g3, h⟩ := sd_if h
    refine sd_b_ai (sd_oa sd_o_331 (by decide) (off := 10) (List.mem_of_getElem? (i := 9) rfl)) g3 rfl ?_
    refine sd_b_go 1 (pc2 := 18) (lv2 := [(0, .inr (.inr (some (331)))), (1, .inl (p1))]) (st2 := [.inl (1), .inl ((r1.2) 341 (sd_w (71 + p1)).toNat)]) rfl ?_
    by_cases c4 : ((r1.2) 341 (sd_w (71 + p1)).toNat) = 1
    · rw [if_pos c4] at h
      refine sd_b_cf (c := .ne) rfl (decide_eq_false (not_not_intro c4)) (by decide) ?_
      refine sd_b_go 2 (pc2 := 26) (lv2 := [(0, .inr (.inr (some (331)))), (1, .inl (p1))]) (st2 := [.inl (1)]) rfl ?_
      cases h
      exact sd_b_rt rfl rfl rfl
    · rw [if_neg c4] at h
      refine sd_b_ct (c := .ne) (tgt := 25) rfl (decide_eq_true c4) (by decide) ?_
      refine sd_b_go 1 (pc2 := 26) (lv2 := [(0, .inr (.inr (some (331)))), (1, .inl (p1))]) (st2 := [.inl (0)]) rfl ?_
      cases h
      exact sd_b_rt rfl rfl rfl
theorem m_X10_isLine {X : Nat → List sd_V → List sd_E → sd_A → Prop} {d : Nat} (hd : 2 ≤ d) {p1 : Int} {M : sd_M} {Rr : Int × sd_M} (h : f_X10_isLine p1 M = some Rr) : sd_Cal X d 175 [.inr (.inr (some (331))), .inl (p1)] (sd_rp M) (some (.inl Rr.1), sd_rp Rr.2, 0, 0) := by
  obtain ⟨d, rfl⟩ : ∃ d2, d = d2 + 1 := ⟨d - 1, by omega⟩
  exact sd_cal_of sd_i_X10_isLine (Nat.le_of_ble_eq_true rfl) (t_X10_isLine (by omega) p1 M Rr h)
-- X10_isWaiting
def sd_q_X10_isWaiting : sd_MI := (yX10_isWaiting, cX10_isWaiting, 2, (some .boolean), 10, 1, sd_t_X10_isWaiting)
set_option maxRecDepth 4000 in
theorem sd_i_X10_isWaiting : sd_mL[176]? = some sd_q_X10_isWaiting := rfl
def f_X10_isWaiting (p1 : Int) (M : sd_M) : Option (Int × sd_M) := (f_X10_isOffer p1 M).bind fun r1 => if r1.1 = 0 then (some (0, r1.2)) else (if 0 ≤ (sd_w (71 + p1)) ∧ (sd_w (71 + p1)) < 128 then (if ((r1.2) 341 (sd_w (71 + p1)).toNat) = 0 then (some (1, r1.2)) else (some (0, r1.2))) else none)
set_option maxRecDepth 4000 in
theorem t_X10_isWaiting {X : Nat → List sd_V → List sd_E → sd_A → Prop} {d : Nat} (hd : 1 ≤ d) (p1 : Int) (M : sd_M) (Rr : Int × sd_M) (h : f_X10_isWaiting p1 M = some Rr) : sd_B X d sd_q_X10_isWaiting 0 [(0, .inr (.inr (some (331)))), (1, .inl (p1))] [] M (some (.inl Rr.1), sd_rp Rr.2, 0, 0) := by
  unfold f_X10_isWaiting at h
  refine sd_b_go 2 (pc2 := 2) (lv2 := [(0, .inr (.inr (some (331)))), (1, .inl (p1))]) (st2 := [.inl (p1), .inr (.inr (some (331)))]) rfl ?_
  obtain ⟨r1, e1, h⟩ := sd_bnd h
  refine sd_b_call [.inr (.inr (some (331))), .inl (p1)] [] rfl rfl sd_i_X10_isOffer rfl rfl (Nat.le_of_ble_eq_true rfl) (sd_rc_v sd_o_331) (m_X10_isOffer (by omega) e1) ?_
  by_cases c2 : r1.1 = 0
  · rw [if_pos c2] at h
    refine sd_b_zt (c := .eq) (tgt := 24) rfl (decide_eq_true c2) (by decide) ?_
    refine sd_b_go 1 (pc2 := 25) (lv2 := [(0, .inr (.inr (some (331)))), (1, .inl (p1))]) (st2 := [.inl (0)]) rfl ?_
    cases h
    exact sd_b_rt rfl rfl rfl
  · rw [if_neg c2] at h
    refine sd_b_zf (c := .eq) rfl (decide_eq_false c2) (by decide) ?_
    refine sd_b_go 1 (pc2 := 9) (lv2 := [(0, .inr (.inr (some (331)))), (1, .inl (p1))]) (st2 := [.inr (.inr (some (331)))]) rfl ?_
    refine sd_b_gr (k := 20) sd_o_331 rfl rfl rfl ?_
    refine sd_b_go 3 (pc2 := 16) (lv2 := [(0, .inr (.inr (some (331)))), (1, .inl (p1))]) (st2 := [.inl (sd_w (71 + p1)), .inr (.inr (some (341)))]) rfl ?_
    obtain ⟨g3, h⟩ := sd_if h
    refine sd_b_ai (sd_oa sd_o_331 (by decide) (off := 10) (List.mem_of_getElem? (i := 9) rfl)) g3 rfl ?_
    by_cases c4 : ((r1.2) 341 (sd_w (71 + p1)).toNat) = 0
    · rw [if_pos c4] at h
      refine sd_b_zf (c := .ne) rfl (decide_eq_false (not_not_intro c4)) (by decide) ?_
      refine sd_b_go 2 (pc2 := 25) (lv2 := [(0, .inr (.inr (some (331)))), (1, .inl (p1))]) (st2 := [.inl (1)]) rfl ?_
      cases h
      exact sd_b_rt rfl rfl rfl
    · rw [if_neg c4] at h
      refine sd_b_zt (c := .ne) (tgt := 24) rfl (decide_eq_true c4) (by decide) ?_
      refine sd_b_go 1 (pc2 := 25) (lv2 := [(0, .inr (.inr (some (331)))), (1, .inl (p1))]) (st2 := [.inl (0)]) rfl ?_
      cases h
      exact sd_b_rt rfl rfl rfl
theorem m_X10_isWaiting {X : Nat → List sd_V → List sd_E → sd_A → Prop} {d : Nat} (hd : 2 ≤ d) {p1 : Int} {M : sd_M} {Rr : Int × sd_M} (h : f_X10_isWaiting p1 M = some Rr) : sd_Cal X d 176 [.inr (.inr (some (331))), .inl (p1)] (sd_rp M) (some (.inl Rr.1), sd_rp Rr.2, 0, 0) := by
  obtain ⟨d, rfl⟩ : ∃ d2, d = d2 + 1 := ⟨d - 1, by omega⟩
  exact sd_cal_of sd_i_X10_isWaiting (Nat.le_of_ble_eq_true rfl) (t_X10_isWaiting (by omega) p1 M Rr h)
-- X10_onesAt
def sd_q_X10_onesAt : sd_MI := (yX10_onesAt, cX10_onesAt, 4, (some .int), 10, 1, sd_t_X10_onesAt)
set_option maxRecDepth 4000 in
theorem sd_i_X10_onesAt : sd_mL[177]? = some sd_q_X10_onesAt := rfl
def f_X10_onesAt_35 (k4 : Int → Int → Int → sd_M → Option (Int × sd_M)) (v1 : Int) (v3 : Int) (s0 : Int) (s1 : Int) (M : sd_M) : Option (Int × sd_M) := k4 v1 (sd_or (s1) (s0)) (sd_w (v3 + 1)) M
set_option maxRecDepth 4000 in
theorem t_X10_onesAt_35 {X : Nat → List sd_V → List sd_E → sd_A → Prop} {d : Nat} (hd : 0 ≤ d) (k4 : Int → Int → Int → sd_M → Option (Int × sd_M)) (hk4 : ∀ (v1 : Int) (v2 : Int) (v3 : Int) (M : sd_M) (Rr : Int × sd_M), k4 v1 v2 v3 M = some Rr → sd_B X d sd_q_X10_onesAt 4 [(0, .inr (.inr (some (331)))), (1, .inl (v1)), (2, .inl (v2)), (3, .inl (v3))] [] M (some (.inl Rr.1), sd_rp Rr.2, 0, 0)) (v1 : Int) (v3 : Int) (s0 : Int) (s1 : Int) (M : sd_M) (Rr : Int × sd_M) (h : f_X10_onesAt_35 k4 v1 v3 s0 s1 M = some Rr) : sd_B X d sd_q_X10_onesAt 35 [(0, .inr (.inr (some (331)))), (1, .inl (v1)), (3, .inl (v3))] [.inl (s0), .inl (s1)] M (some (.inl Rr.1), sd_rp Rr.2, 0, 0) := by
  unfold f_X10_onesAt_35 at h
  refine sd_b_go 4 (pc2 := 4) (lv2 := [(3, .inl (sd_w (v3 + 1))), (2, .inl (sd_or (s1) (s0))), (0, .inr (.inr (some (331)))), (1, .inl (v1))]) (st2 := []) rfl ?_
  refine sd_b_wk [(0, .inr (.inr (some (331)))), (1, .inl (v1)), (2, .inl (sd_or (s1) (s0))), (3, .inl (sd_w (v3 + 1)))] (List.forall_mem_cons.mpr ⟨rfl, (List.forall_mem_cons.mpr ⟨rfl, (List.forall_mem_cons.mpr ⟨rfl, (List.forall_mem_cons.mpr ⟨rfl, (fun _ h0 => absurd h0 List.not_mem_nil)⟩)⟩)⟩)⟩) ?_
  exact hk4 v1 (sd_or (s1) (s0)) (sd_w (v3 + 1)) M _ h
def f_X10_onesAt_4 : Nat → Int → Int → Int → sd_M → Option (Int × sd_M)
  | 0, _, _, _, _ => none
  | n + 1, v1, v2, v3, M => if (M 341 2) ≤ v3 then (some (v2, M)) else (if 0 ≤ (sd_w (71 + v3)) ∧ (sd_w (71 + v3)) < 128 then (if (M 341 (sd_w (71 + v3)).toNat) = v1 then (f_X10_onesAt_35 (f_X10_onesAt_4 n) v1 v3 (sd_shl (1) (v3)) v2 M) else (f_X10_onesAt_35 (f_X10_onesAt_4 n) v1 v3 0 v2 M)) else none)
set_option maxRecDepth 4000 in
theorem t_X10_onesAt_4 {X : Nat → List sd_V → List sd_E → sd_A → Prop} {d : Nat} (hd : 0 ≤ d) : ∀ (n : Nat) (v1 : Int) (v2 : Int) (v3 : Int) (M : sd_M) (Rr : Int × sd_M), f_X10_onesAt_4 n v1 v2 v3 M = some Rr → sd_B X d sd_q_X10_onesAt 4 [(0, .inr (.inr (some (331)))), (1, .inl (v1)), (2, .inl (v2)), (3, .inl (v3))] [] M (some (.inl Rr.1), sd_rp Rr.2, 0, 0) := by
  intro n
  induction n with
  | zero => intro v1 v2 v3 M Rr h; cases h
  | succ n ih =>
    intro v1 v2 v3 M Rr h
    rw [f_X10_onesAt_4] at h
    refine sd_b_go 2 (pc2 := 6) (lv2 := [(0, .inr (.inr (some (331)))), (1, .inl (v1)), (2, .inl (v2)), (3, .inl (v3))]) (st2 := [.inr (.inr (some (331))), .inl (v3)]) rfl ?_
    refine sd_b_gr (k := 20) sd_o_331 rfl rfl rfl ?_
    refine sd_b_go 1 (pc2 := 10) (lv2 := [(0, .inr (.inr (some (331)))), (1, .inl (v1)), (2, .inl (v2)), (3, .inl (v3))]) (st2 := [.inl (2), .inr (.inr (some (341))), .inl (v3)]) rfl ?_
    refine sd_b_ai (i := 2) (sd_oa sd_o_331 (by decide) (off := 10) (List.mem_of_getElem? (i := 9) rfl)) (by decide) rfl ?_
    by_cases c1 : (M 341 2) ≤ v3
    · rw [if_pos c1] at h
      refine sd_b_ct (c := .ge) (tgt := 43) rfl (decide_eq_true c1) (by decide) ?_
      refine sd_b_go 1 (pc2 := 44) (lv2 := [(0, .inr (.inr (some (331)))), (1, .inl (v1)), (2, .inl (v2)), (3, .inl (v3))]) (st2 := [.inl (v2)]) rfl ?_
      cases h
      exact sd_b_rt rfl rfl rfl
    · rw [if_neg c1] at h
      refine sd_b_cf (c := .ge) rfl (decide_eq_false c1) (by decide) ?_
      refine sd_b_go 2 (pc2 := 16) (lv2 := [(0, .inr (.inr (some (331)))), (1, .inl (v1)), (2, .inl (v2)), (3, .inl (v3))]) (st2 := [.inr (.inr (some (331))), .inl (v2)]) rfl ?_
      refine sd_b_gr (k := 20) sd_o_331 rfl rfl rfl ?_
      refine sd_b_go 3 (pc2 := 23) (lv2 := [(0, .inr (.inr (some (331)))), (1, .inl (v1)), (2, .inl (v2)), (3, .inl (v3))]) (st2 := [.inl (sd_w (71 + v3)), .inr (.inr (some (341))), .inl (v2)]) rfl ?_
      obtain ⟨g2, h⟩ := sd_if h
      refine sd_b_ai (sd_oa sd_o_331 (by decide) (off := 10) (List.mem_of_getElem? (i := 9) rfl)) g2 rfl ?_
      refine sd_b_go 1 (pc2 := 25) (lv2 := [(0, .inr (.inr (some (331)))), (1, .inl (v1)), (2, .inl (v2)), (3, .inl (v3))]) (st2 := [.inl (v1), .inl (M 341 (sd_w (71 + v3)).toNat), .inl (v2)]) rfl ?_
      by_cases c3 : (M 341 (sd_w (71 + v3)).toNat) = v1
      · rw [if_pos c3] at h
        refine sd_b_cf (c := .ne) rfl (decide_eq_false (not_not_intro c3)) (by decide) ?_
        refine sd_b_go 4 (pc2 := 35) (lv2 := [(0, .inr (.inr (some (331)))), (1, .inl (v1)), (2, .inl (v2)), (3, .inl (v3))]) (st2 := [.inl (sd_shl (1) (v3)), .inl (v2)]) rfl ?_
        refine sd_b_wk [(0, .inr (.inr (some (331)))), (1, .inl (v1)), (3, .inl (v3))] (List.forall_mem_cons.mpr ⟨rfl, (List.forall_mem_cons.mpr ⟨rfl, (List.forall_mem_cons.mpr ⟨rfl, (fun _ h0 => absurd h0 List.not_mem_nil)⟩)⟩)⟩) ?_
        exact t_X10_onesAt_35 hd (f_X10_onesAt_4 n) ih v1 v3 (sd_shl (1) (v3)) v2 M _ h
      · rw [if_neg c3] at h
        refine sd_b_ct (c := .ne) (tgt := 34) rfl (decide_eq_true c3) (by decide) ?_
        refine sd_b_go 1 (pc2 := 35) (lv2 := [(0, .inr (.inr (some (331)))), (1, .inl (v1)), (2, .inl (v2)), (3, .inl (v3))]) (st2 := [.inl (0), .inl (v2)]) rfl ?_
        refine sd_b_wk [(0, .inr (.inr (some (331)))), (1, .inl (v1)), (3, .inl (v3))] (List.forall_mem_cons.mpr ⟨rfl, (List.forall_mem_cons.mpr ⟨rfl, (List.forall_mem_cons.mpr ⟨rfl, (fun _ h0 => absurd h0 List.not_mem_nil)⟩)⟩)⟩) ?_
        exact t_X10_onesAt_35 hd (f_X10_onesAt_4 n) ih v1 v3 0 v2 M _ h
def f_X10_onesAt (p1 : Int) (M : sd_M) : Option (Int × sd_M) := f_X10_onesAt_4 4000 p1 0 0 M
set_option maxRecDepth 4000 in
theorem t_X10_onesAt {X : Nat → List sd_V → List sd_E → sd_A → Prop} {d : Nat} (hd : 0 ≤ d) (p1 : Int) (M : sd_M) (Rr : Int × sd_M) (h : f_X10_onesAt p1 M = some Rr) : sd_B X d sd_q_X10_onesAt 0 [(0, .inr (.inr (some (331)))), (1, .inl (p1))] [] M (some (.inl Rr.1), sd_rp Rr.2, 0, 0) := by
  unfold f_X10_onesAt at h
  refine sd_b_go 4 (pc2 := 4) (lv2 := [(3, .inl (0)), (2, .inl (0)), (0, .inr (.inr (some (331)))), (1, .inl (p1))]) (st2 := []) rfl ?_
  refine sd_b_wk [(0, .inr (.inr (some (331)))), (1, .inl (p1)), (2, .inl (0)), (3, .inl (0))] (List.forall_mem_cons.mpr ⟨rfl, (List.forall_mem_cons.mpr ⟨rfl, (List.forall_mem_cons.mpr ⟨rfl, (List.forall_mem_cons.mpr ⟨rfl, (fun _ h0 => absurd h0 List.not_mem_nil)⟩)⟩)⟩)⟩) ?_
  exact t_X10_onesAt_4 hd 4000 p1 0 0 M _ h
theorem m_X10_onesAt {X : Nat → List sd_V → List sd_E → sd_A → Prop} {d : Nat} (hd : 1 ≤ d) {p1 : Int} {M : sd_M} {Rr : Int × sd_M} (h : f_X10_onesAt p1 M = some Rr) : sd_Cal X d 177 [.inr (.inr (some (331))), .inl (p1)] (sd_rp M) (some (.inl Rr.1), sd_rp Rr.2, 0, 0) := by
  obtain ⟨d, rfl⟩ : ∃ d2, d = d2 + 1 := ⟨d - 1, by omega⟩
  exact sd_cal_of sd_i_X10_onesAt (Nat.le_of_ble_eq_true rfl) (t_X10_onesAt (by omega) p1 M Rr h)
-- X10_placed
def sd_q_X10_placed : sd_MI := (yX10_placed, cX10_placed, 3, (some .int), 10, 0, sd_t_X10_placed)
set_option maxRecDepth 4000 in
theorem sd_i_X10_placed : sd_mL[178]? = some sd_q_X10_placed := rfl
def f_X10_placed_4 : Nat → Int → Int → sd_M → Option (Int × sd_M)
  | 0, _, _, _ => none
  | n + 1, v1, v2, M => if (M 341 60) ≤ v2 then (some (v1, M)) else (if 0 ≤ (sd_w (89 + v2)) ∧ (sd_w (89 + v2)) < 128 then (if 0 ≤ (sd_w (62 + (M 341 (sd_w (89 + v2)).toNat))) ∧ (sd_w (62 + (M 341 (sd_w (89 + v2)).toNat))) < 128 then (f_X10_placed_4 n (sd_w (v1 + (M 341 (sd_w (62 + (M 341 (sd_w (89 + v2)).toNat))).toNat))) (sd_w (v2 + 1)) M) else none) else none)
set_option maxRecDepth 4000 in
theorem t_X10_placed_4 {X : Nat → List sd_V → List sd_E → sd_A → Prop} {d : Nat} (hd : 0 ≤ d) : ∀ (n : Nat) (v1 : Int) (v2 : Int) (M : sd_M) (Rr : Int × sd_M), f_X10_placed_4 n v1 v2 M = some Rr → sd_B X d sd_q_X10_placed 4 [(0, .inr (.inr (some (331)))), (1, .inl (v1)), (2, .inl (v2))] [] M (some (.inl Rr.1), sd_rp Rr.2, 0, 0) := by
  intro n
  induction n with
  | zero => intro v1 v2 M Rr h; cases h
  | succ n ih =>
    intro v1 v2 M Rr h
    rw [f_X10_placed_4] at h
    refine sd_b_go 2 (pc2 := 6) (lv2 := [(0, .inr (.inr (some (331)))), (1, .inl (v1)), (2, .inl (v2))]) (st2 := [.inr (.inr (some (331))), .inl (v2)]) rfl ?_
    refine sd_b_gr (k := 20) sd_o_331 rfl rfl rfl ?_
    refine sd_b_go 1 (pc2 := 11) (lv2 := [(0, .inr (.inr (some (331)))), (1, .inl (v1)), (2, .inl (v2))]) (st2 := [.inl (60), .inr (.inr (some (341))), .inl (v2)]) rfl ?_
    refine sd_b_ai (i := 60) (sd_oa sd_o_331 (by decide) (off := 10) (List.mem_of_getElem? (i := 9) rfl)) (by decide) rfl ?_
    by_cases c1 : (M 341 60) ≤ v2
    · rw [if_pos c1] at h
      refine sd_b_ct (c := .ge) (tgt := 41) rfl (decide_eq_true c1) (by decide) ?_
      refine sd_b_go 1 (pc2 := 42) (lv2 := [(0, .inr (.inr (some (331)))), (1, .inl (v1)), (2, .inl (v2))]) (st2 := [.inl (v1)]) rfl ?_
      cases h
      exact sd_b_rt rfl rfl rfl
    · rw [if_neg c1] at h
      refine sd_b_cf (c := .ge) rfl (decide_eq_false c1) (by decide) ?_
      refine sd_b_go 2 (pc2 := 17) (lv2 := [(0, .inr (.inr (some (331)))), (1, .inl (v1)), (2, .inl (v2))]) (st2 := [.inr (.inr (some (331))), .inl (v1)]) rfl ?_
      refine sd_b_gr (k := 20) sd_o_331 rfl rfl rfl ?_
      refine sd_b_go 2 (pc2 := 23) (lv2 := [(0, .inr (.inr (some (331)))), (1, .inl (v1)), (2, .inl (v2))]) (st2 := [.inr (.inr (some (331))), .inl (62), .inr (.inr (some (341))), .inl (v1)]) rfl ?_
      refine sd_b_gr (k := 20) sd_o_331 rfl rfl rfl ?_
      refine sd_b_go 3 (pc2 := 30) (lv2 := [(0, .inr (.inr (some (331)))), (1, .inl (v1)), (2, .inl (v2))]) (st2 := [.inl (sd_w (89 + v2)), .inr (.inr (some (341))), .inl (62), .inr (.inr (some (341))), .inl (v1)]) rfl ?_
      obtain ⟨g2, h⟩ := sd_if h
      refine sd_b_ai (sd_oa sd_o_331 (by decide) (off := 10) (List.mem_of_getElem? (i := 9) rfl)) g2 rfl ?_
      refine sd_b_go 1 (pc2 := 32) (lv2 := [(0, .inr (.inr (some (331)))), (1, .inl (v1)), (2, .inl (v2))]) (st2 := [.inl (sd_w (62 + (M 341 (sd_w (89 + v2)).toNat))), .inr (.inr (some (341))), .inl (v1)]) rfl ?_
      obtain ⟨g3, h⟩ := sd_if h
      refine sd_b_ai (sd_oa sd_o_331 (by decide) (off := 10) (List.mem_of_getElem? (i := 9) rfl)) g3 rfl ?_
      refine sd_b_go 4 (pc2 := 4) (lv2 := [(2, .inl (sd_w (v2 + 1))), (1, .inl (sd_w (v1 + (M 341 (sd_w (62 + (M 341 (sd_w (89 + v2)).toNat))).toNat)))), (0, .inr (.inr (some (331))))]) (st2 := []) rfl ?_
      refine sd_b_wk [(0, .inr (.inr (some (331)))), (1, .inl (sd_w (v1 + (M 341 (sd_w (62 + (M 341 (sd_w (89 + v2)).toNat))).toNat)))), (2, .inl (sd_w (v2 + 1)))] (List.forall_mem_cons.mpr ⟨rfl, (List.forall_mem_cons.mpr ⟨rfl, (List.forall_mem_cons.mpr ⟨rfl, (fun _ h0 => absurd h0 List.not_mem_nil)⟩)⟩)⟩) ?_
      exact ih (sd_w (v1 + (M 341 (sd_w (62 + (M 341 (sd_w (89 + v2)).toNat))).toNat))) (sd_w (v2 + 1)) M _ h
def f_X10_placed (M : sd_M) : Option (Int × sd_M) := f_X10_placed_4 4000 0 0 M
set_option maxRecDepth 4000 in
theorem t_X10_placed {X : Nat → List sd_V → List sd_E → sd_A → Prop} {d : Nat} (hd : 0 ≤ d) (M : sd_M) (Rr : Int × sd_M) (h : f_X10_placed M = some Rr) : sd_B X d sd_q_X10_placed 0 [(0, .inr (.inr (some (331))))] [] M (some (.inl Rr.1), sd_rp Rr.2, 0, 0) := by
  unfold f_X10_placed at h
  refine sd_b_go 4 (pc2 := 4) (lv2 := [(2, .inl (0)), (1, .inl (0)), (0, .inr (.inr (some (331))))]) (st2 := []) rfl ?_
  refine sd_b_wk [(0, .inr (.inr (some (331)))), (1, .inl (0)), (2, .inl (0))] (List.forall_mem_cons.mpr ⟨rfl, (List.forall_mem_cons.mpr ⟨rfl, (List.forall_mem_cons.mpr ⟨rfl, (fun _ h0 => absurd h0 List.not_mem_nil)⟩)⟩)⟩) ?_
  exact t_X10_placed_4 hd 4000 0 0 M _ h
theorem m_X10_placed {X : Nat → List sd_V → List sd_E → sd_A → Prop} {d : Nat} (hd : 1 ≤ d) {M : sd_M} {Rr : Int × sd_M} (h : f_X10_placed M = some Rr) : sd_Cal X d 178 [.inr (.inr (some (331)))] (sd_rp M) (some (.inl Rr.1), sd_rp Rr.2, 0, 0) := by
  obtain ⟨d, rfl⟩ : ∃ d2, d = d2 + 1 := ⟨d - 1, by omega⟩
  exact sd_cal_of sd_i_X10_placed (Nat.le_of_ble_eq_true rfl) (t_X10_placed (by omega) M Rr h)
-- X10_shortNow
def sd_q_X10_shortNow : sd_MI := (yX10_shortNow, cX10_shortNow, 1, (some .int), 10, 0, sd_t_X10_shortNow)
set_option maxRecDepth 4000 in
theorem sd_i_X10_shortNow : sd_mL[179]? = some sd_q_X10_shortNow := rfl
def f_X10_shortNow (M : sd_M) : Option (Int × sd_M) := (f_X10_placed M).bind fun r1 => if (r1.2 341 59) ≤ r1.1 then (some (0, r1.2)) else ((f_X10_placed r1.2).bind fun r3 => some (sd_w ((r1.2 341 59) - r3.1), r3.2))
set_option maxRecDepth 4000 in
theorem t_X10_shortNow {X : Nat → List sd_V → List sd_E → sd_A → Prop} {d : Nat} (hd : 1 ≤ d) (M : sd_M) (Rr : Int × sd_M) (h : f_X10_shortNow M = some Rr) : sd_B X d sd_q_X10_shortNow 0 [(0, .inr (.inr (some (331))))] [] M (some (.inl Rr.1), sd_rp Rr.2, 0, 0) := by
  unfold f_X10_shortNow at h
  refine sd_b_go 1 (pc2 := 1) (lv2 := [(0, .inr (.inr (some (331))))]) (st2 := [.inr (.inr (some (331)))]) rfl ?_
  obtain ⟨r1, e1, h⟩ := sd_bnd h
  refine sd_b_call [.inr (.inr (some (331)))] [] rfl rfl sd_i_X10_placed rfl rfl (Nat.le_of_ble_eq_true rfl) (sd_rc_v sd_o_331) (m_X10_placed (by omega) e1) ?_
  refine sd_b_go 1 (pc2 := 5) (lv2 := [(0, .inr (.inr (some (331))))]) (st2 := [.inr (.inr (some (331))), .inl (r1.1)]) rfl ?_
  refine sd_b_gr (k := 20) sd_o_331 rfl rfl rfl ?_
  refine sd_b_go 1 (pc2 := 10) (lv2 := [(0, .inr (.inr (some (331))))]) (st2 := [.inl (59), .inr (.inr (some (341))), .inl (r1.1)]) rfl ?_
  refine sd_b_ai (i := 59) (sd_oa sd_o_331 (by decide) (off := 10) (List.mem_of_getElem? (i := 9) rfl)) (by decide) rfl ?_
  by_cases c2 : (r1.2 341 59) ≤ r1.1
  · rw [if_pos c2] at h
    refine sd_b_ct (c := .ge) (tgt := 29) rfl (decide_eq_true c2) (by decide) ?_
    refine sd_b_go 1 (pc2 := 30) (lv2 := [(0, .inr (.inr (some (331))))]) (st2 := [.inl (0)]) rfl ?_
    cases h
    exact sd_b_rt rfl rfl rfl
  · rw [if_neg c2] at h
    refine sd_b_cf (c := .ge) rfl (decide_eq_false c2) (by decide) ?_
    refine sd_b_go 1 (pc2 := 15) (lv2 := [(0, .inr (.inr (some (331))))]) (st2 := [.inr (.inr (some (331)))]) rfl ?_
    refine sd_b_gr (k := 20) sd_o_331 rfl rfl rfl ?_
    refine sd_b_go 1 (pc2 := 20) (lv2 := [(0, .inr (.inr (some (331))))]) (st2 := [.inl (59), .inr (.inr (some (341)))]) rfl ?_
    refine sd_b_ai (i := 59) (sd_oa sd_o_331 (by decide) (off := 10) (List.mem_of_getElem? (i := 9) rfl)) (by decide) rfl ?_
    refine sd_b_go 1 (pc2 := 22) (lv2 := [(0, .inr (.inr (some (331))))]) (st2 := [.inr (.inr (some (331))), .inl (r1.2 341 59)]) rfl ?_
    obtain ⟨r3, e3, h⟩ := sd_bnd h
    refine sd_b_call [.inr (.inr (some (331)))] [.inl (r1.2 341 59)] rfl rfl sd_i_X10_placed rfl rfl (Nat.le_of_ble_eq_true rfl) (sd_rc_v sd_o_331) (m_X10_placed (by omega) e3) ?_
    refine sd_b_go 2 (pc2 := 30) (lv2 := [(0, .inr (.inr (some (331))))]) (st2 := [.inl (sd_w ((r1.2 341 59) - r3.1))]) rfl ?_
    cases h
    exact sd_b_rt rfl rfl rfl
theorem m_X10_shortNow {X : Nat → List sd_V → List sd_E → sd_A → Prop} {d : Nat} (hd : 2 ≤ d) {M : sd_M} {Rr : Int × sd_M} (h : f_X10_shortNow M = some Rr) : sd_Cal X d 179 [.inr (.inr (some (331)))] (sd_rp M) (some (.inl Rr.1), sd_rp Rr.2, 0, 0) := by
  obtain ⟨d, rfl⟩ : ∃ d2, d = d2 + 1 := ⟨d - 1, by omega⟩
  exact sd_cal_of sd_i_X10_shortNow (Nat.le_of_ble_eq_true rfl) (t_X10_shortNow (by omega) M Rr h)
-- X10_needsOf
def sd_q_X10_needsOf : sd_MI := (yX10_needsOf, cX10_needsOf, 4, (some .int), 10, 1, sd_t_X10_needsOf)
set_option maxRecDepth 4000 in
theorem sd_i_X10_needsOf : sd_mL[180]? = some sd_q_X10_needsOf := rfl
def f_X10_needsOf_35 (k4 : Int → Int → Int → sd_M → Option (Int × sd_M)) (v1 : Int) (v3 : Int) (s0 : Int) (s1 : Int) (M : sd_M) : Option (Int × sd_M) := k4 v1 (sd_w (s1 + s0)) (sd_w (v3 + 1)) M
set_option maxRecDepth 4000 in
theorem t_X10_needsOf_35 {X : Nat → List sd_V → List sd_E → sd_A → Prop} {d : Nat} (hd : 0 ≤ d) (k4 : Int → Int → Int → sd_M → Option (Int × sd_M)) (hk4 : ∀ (v1 : Int) (v2 : Int) (v3 : Int) (M : sd_M) (Rr : Int × sd_M), k4 v1 v2 v3 M = some Rr → sd_B X d sd_q_X10_needsOf 4 [(0, .inr (.inr (some (331)))), (1, .inl (v1)), (2, .inl (v2)), (3, .inl (v3))] [] M (some (.inl Rr.1), sd_rp Rr.2, 0, 0)) (v1 : Int) (v3 : Int) (s0 : Int) (s1 : Int) (M : sd_M) (Rr : Int × sd_M) (h : f_X10_needsOf_35 k4 v1 v3 s0 s1 M = some Rr) : sd_B X d sd_q_X10_needsOf 35 [(0, .inr (.inr (some (331)))), (1, .inl (v1)), (3, .inl (v3))] [.inl (s0), .inl (s1)] M (some (.inl Rr.1), sd_rp Rr.2, 0, 0) := by
  unfold f_X10_needsOf_35 at h
  refine sd_b_go 4 (pc2 := 4) (lv2 := [(3, .inl (sd_w (v3 + 1))), (2, .inl (sd_w (s1 + s0))), (0, .inr (.inr (some (331)))), (1, .inl (v1))]) (st2 := []) rfl ?_
  refine sd_b_wk [(0, .inr (.inr (some (331)))), (1, .inl (v1)), (2, .inl (sd_w (s1 + s0))), (3, .inl (sd_w (v3 + 1)))] (List.forall_mem_cons.mpr ⟨rfl, (List.forall_mem_cons.mpr ⟨rfl, (List.forall_mem_cons.mpr ⟨rfl, (List.forall_mem_cons.mpr ⟨rfl, (fun _ h0 => absurd h0 List.not_mem_nil)⟩)⟩)⟩)⟩) ?_
  exact hk4 v1 (sd_w (s1 + s0)) (sd_w (v3 + 1)) M _ h
def f_X10_needsOf_4 : Nat → Int → Int → Int → sd_M → Option (Int × sd_M)
  | 0, _, _, _, _ => none
  | n + 1, v1, v2, v3, M => if (M 341 3) ≤ v3 then (some (v2, M)) else (if 0 ≤ (sd_w (22 + (sd_w (3 * v3)))) ∧ (sd_w (22 + (sd_w (3 * v3)))) < 128 then (if (M 341 (sd_w (22 + (sd_w (3 * v3)))).toNat) = v1 then (f_X10_needsOf_35 (f_X10_needsOf_4 n) v1 v3 1 v2 M) else (f_X10_needsOf_35 (f_X10_needsOf_4 n) v1 v3 0 v2 M)) else none)
set_option maxRecDepth 4000 in
theorem t_X10_needsOf_4 {X : Nat → List sd_V → List sd_E → sd_A → Prop} {d : Nat} (hd : 0 ≤ d) : ∀ (n : Nat) (v1 : Int) (v2 : Int) (v3 : Int) (M : sd_M) (Rr : Int × sd_M), f_X10_needsOf_4 n v1 v2 v3 M = some Rr → sd_B X d sd_q_X10_needsOf 4 [(0, .inr (.inr (some (331)))), (1, .inl (v1)), (2, .inl (v2)), (3, .inl (v3))] [] M (some (.inl Rr.1), sd_rp Rr.2, 0, 0) := by
  intro n
  induction n with
  | zero => intro v1 v2 v3 M Rr h; cases h
  | succ n ih =>
    intro v1 v2 v3 M Rr h
    rw [f_X10_needsOf_4] at h
    refine sd_b_go 2 (pc2 := 6) (lv2 := [(0, .inr (.inr (some (331)))), (1, .inl (v1)), (2, .inl (v2)), (3, .inl (v3))]) (st2 := [.inr (.inr (some (331))), .inl (v3)]) rfl ?_
    refine sd_b_gr (k := 20) sd_o_331 rfl rfl rfl ?_
    refine sd_b_go 1 (pc2 := 10) (lv2 := [(0, .inr (.inr (some (331)))), (1, .inl (v1)), (2, .inl (v2)), (3, .inl (v3))]) (st2 := [.inl (3), .inr (.inr (some (341))), .inl (v3)]) rfl ?_
    refine sd_b_ai (i := 3) (sd_oa sd_o_331 (by decide) (off := 10) (List.mem_of_getElem? (i := 9) rfl)) (by decide) rfl ?_
    by_cases c1 : (M 341 3) ≤ v3
    · rw [if_pos c1] at h
      refine sd_b_ct (c := .ge) (tgt := 43) rfl (decide_eq_true c1) (by decide) ?_
      refine sd_b_go 1 (pc2 := 44) (lv2 := [(0, .inr (.inr (some (331)))), (1, .inl (v1)), (2, .inl (v2)), (3, .inl (v3))]) (st2 := [.inl (v2)]) rfl ?_
      cases h
      exact sd_b_rt rfl rfl rfl
    · rw [if_neg c1] at h
      refine sd_b_cf (c := .ge) rfl (decide_eq_false c1) (by decide) ?_
      refine sd_b_go 2 (pc2 := 16) (lv2 := [(0, .inr (.inr (some (331)))), (1, .inl (v1)), (2, .inl (v2)), (3, .inl (v3))]) (st2 := [.inr (.inr (some (331))), .inl (v2)]) rfl ?_
      refine sd_b_gr (k := 20) sd_o_331 rfl rfl rfl ?_
      refine sd_b_go 5 (pc2 := 25) (lv2 := [(0, .inr (.inr (some (331)))), (1, .inl (v1)), (2, .inl (v2)), (3, .inl (v3))]) (st2 := [.inl (sd_w (22 + (sd_w (3 * v3)))), .inr (.inr (some (341))), .inl (v2)]) rfl ?_
      obtain ⟨g2, h⟩ := sd_if h
      refine sd_b_ai (sd_oa sd_o_331 (by decide) (off := 10) (List.mem_of_getElem? (i := 9) rfl)) g2 rfl ?_
      refine sd_b_go 1 (pc2 := 27) (lv2 := [(0, .inr (.inr (some (331)))), (1, .inl (v1)), (2, .inl (v2)), (3, .inl (v3))]) (st2 := [.inl (v1), .inl (M 341 (sd_w (22 + (sd_w (3 * v3)))).toNat), .inl (v2)]) rfl ?_
      by_cases c3 : (M 341 (sd_w (22 + (sd_w (3 * v3)))).toNat) = v1
      · rw [if_pos c3] at h
        refine sd_b_cf (c := .ne) rfl (decide_eq_false (not_not_intro c3)) (by decide) ?_
        refine sd_b_go 2 (pc2 := 35) (lv2 := [(0, .inr (.inr (some (331)))), (1, .inl (v1)), (2, .inl (v2)), (3, .inl (v3))]) (st2 := [.inl (1), .inl (v2)]) rfl ?_
        refine sd_b_wk [(0, .inr (.inr (some (331)))), (1, .inl (v1)), (3, .inl (v3))] (List.forall_mem_cons.mpr ⟨rfl, (List.forall_mem_cons.mpr ⟨rfl, (List.forall_mem_cons.mpr ⟨rfl, (fun _ h0 => absurd h0 List.not_mem_nil)⟩)⟩)⟩) ?_
        exact t_X10_needsOf_35 hd (f_X10_needsOf_4 n) ih v1 v3 1 v2 M _ h
      · rw [if_neg c3] at h
        refine sd_b_ct (c := .ne) (tgt := 34) rfl (decide_eq_true c3) (by decide) ?_
        refine sd_b_go 1 (pc2 := 35) (lv2 := [(0, .inr (.inr (some (331)))), (1, .inl (v1)), (2, .inl (v2)), (3, .inl (v3))]) (st2 := [.inl (0), .inl (v2)]) rfl ?_
        refine sd_b_wk [(0, .inr (.inr (some (331)))), (1, .inl (v1)), (3, .inl (v3))] (List.forall_mem_cons.mpr ⟨rfl, (List.forall_mem_cons.mpr ⟨rfl, (List.forall_mem_cons.mpr ⟨rfl, (fun _ h0 => absurd h0 List.not_mem_nil)⟩)⟩)⟩) ?_
        exact t_X10_needsOf_35 hd (f_X10_needsOf_4 n) ih v1 v3 0 v2 M _ h
def f_X10_needsOf (p1 : Int) (M : sd_M) : Option (Int × sd_M) := f_X10_needsOf_4 4000 p1 0 0 M
set_option maxRecDepth 4000 in
theorem t_X10_needsOf {X : Nat → List sd_V → List sd_E → sd_A → Prop} {d : Nat} (hd : 0 ≤ d) (p1 : Int) (M : sd_M) (Rr : Int × sd_M) (h : f_X10_needsOf p1 M = some Rr) : sd_B X d sd_q_X10_needsOf 0 [(0, .inr (.inr (some (331)))), (1, .inl (p1))] [] M (some (.inl Rr.1), sd_rp Rr.2, 0, 0) := by
  unfold f_X10_needsOf at h
  refine sd_b_go 4 (pc2 := 4) (lv2 := [(3, .inl (0)), (2, .inl (0)), (0, .inr (.inr (some (331)))), (1, .inl (p1))]) (st2 := []) rfl ?_
  refine sd_b_wk [(0, .inr (.inr (some (331)))), (1, .inl (p1)), (2, .inl (0)), (3, .inl (0))] (List.forall_mem_cons.mpr ⟨rfl, (List.forall_mem_cons.mpr ⟨rfl, (List.forall_mem_cons.mpr ⟨rfl, (List.forall_mem_cons.mpr ⟨rfl, (fun _ h0 => absurd h0 List.not_mem_nil)⟩)⟩)⟩)⟩) ?_
  exact t_X10_needsOf_4 hd 4000 p1 0 0 M _ h
theorem m_X10_needsOf {X : Nat → List sd_V → List sd_E → sd_A → Prop} {d : Nat} (hd : 1 ≤ d) {p1 : Int} {M : sd_M} {Rr : Int × sd_M} (h : f_X10_needsOf p1 M = some Rr) : sd_Cal X d 180 [.inr (.inr (some (331))), .inl (p1)] (sd_rp M) (some (.inl Rr.1), sd_rp Rr.2, 0, 0) := by
  obtain ⟨d, rfl⟩ : ∃ d2, d = d2 + 1 := ⟨d - 1, by omega⟩
  exact sd_cal_of sd_i_X10_needsOf (Nat.le_of_ble_eq_true rfl) (t_X10_needsOf (by omega) p1 M Rr h)
-- X10_parts
def sd_q_X10_parts : sd_MI := (yX10_parts, cX10_parts, 9, none, 10, 1, sd_t_X10_parts)
set_option maxRecDepth 4000 in
theorem sd_i_X10_parts : sd_mL[181]? = some sd_q_X10_parts := rfl
def f_X10_parts_7 (k35 : Int → Int → Int → sd_M → Option (Int × sd_M)) : Nat → Int → Int → Int → Int → sd_M → Option (Int × sd_M)
  | 0, _, _, _, _, _ => none
  | n + 1, v1, v2, v3, v4, M => if (M 341 60) ≤ v4 then (k35 v1 v2 v3 M) else (if 0 ≤ v4 ∧ v4 < 9 then (f_X10_parts_7 k35 n v1 (sd_w (v2 + (M 342 v4.toNat))) v3 (sd_w (v4 + 1)) M) else none)
set_option maxRecDepth 4000 in
theorem t_X10_parts_7 {X : Nat → List sd_V → List sd_E → sd_A → Prop} {d : Nat} (hd : 0 ≤ d) (k35 : Int → Int → Int → sd_M → Option (Int × sd_M)) (hk35 : ∀ (v1 : Int) (v2 : Int) (v3 : Int) (M : sd_M) (Rr : Int × sd_M), k35 v1 v2 v3 M = some Rr → sd_B X d sd_q_X10_parts 35 [(0, .inr (.inr (some (331)))), (1, .inl (v1)), (2, .inl (v2)), (3, .inl (v3))] [] M (none, sd_rp Rr.2, 0, 0)) : ∀ (n : Nat) (v1 : Int) (v2 : Int) (v3 : Int) (v4 : Int) (M : sd_M) (Rr : Int × sd_M), f_X10_parts_7 k35 n v1 v2 v3 v4 M = some Rr → sd_B X d sd_q_X10_parts 7 [(0, .inr (.inr (some (331)))), (1, .inl (v1)), (2, .inl (v2)), (3, .inl (v3)), (4, .inl (v4))] [] M (none, sd_rp Rr.2, 0, 0) := by
  intro n
  induction n with
  | zero => intro v1 v2 v3 v4 M Rr h; cases h
  | succ n ih =>
    intro v1 v2 v3 v4 M Rr h
    rw [f_X10_parts_7] at h
    refine sd_b_go 2 (pc2 := 10) (lv2 := [(0, .inr (.inr (some (331)))), (1, .inl (v1)), (2, .inl (v2)), (3, .inl (v3)), (4, .inl (v4))]) (st2 := [.inr (.inr (some (331))), .inl (v4)]) rfl ?_
    refine sd_b_gr (k := 20) sd_o_331 rfl rfl rfl ?_
    refine sd_b_go 1 (pc2 := 15) (lv2 := [(0, .inr (.inr (some (331)))), (1, .inl (v1)), (2, .inl (v2)), (3, .inl (v3)), (4, .inl (v4))]) (st2 := [.inl (60), .inr (.inr (some (341))), .inl (v4)]) rfl ?_
    refine sd_b_ai (i := 60) (sd_oa sd_o_331 (by decide) (off := 10) (List.mem_of_getElem? (i := 9) rfl)) (by decide) rfl ?_
    by_cases c1 : (M 341 60) ≤ v4
    · rw [if_pos c1] at h
      refine sd_b_ct (c := .ge) (tgt := 35) rfl (decide_eq_true c1) (by decide) ?_
      refine sd_b_wk [(0, .inr (.inr (some (331)))), (1, .inl (v1)), (2, .inl (v2)), (3, .inl (v3))] (List.forall_mem_cons.mpr ⟨rfl, (List.forall_mem_cons.mpr ⟨rfl, (List.forall_mem_cons.mpr ⟨rfl, (List.forall_mem_cons.mpr ⟨rfl, (fun _ h0 => absurd h0 List.not_mem_nil)⟩)⟩)⟩)⟩) ?_
      exact hk35 v1 v2 v3 M _ h
    · rw [if_neg c1] at h
      refine sd_b_cf (c := .ge) rfl (decide_eq_false c1) (by decide) ?_
      refine sd_b_go 2 (pc2 := 21) (lv2 := [(0, .inr (.inr (some (331)))), (1, .inl (v1)), (2, .inl (v2)), (3, .inl (v3)), (4, .inl (v4))]) (st2 := [.inr (.inr (some (331))), .inl (v2)]) rfl ?_
      refine sd_b_gr (k := 23) sd_o_331 rfl rfl rfl ?_
      refine sd_b_go 1 (pc2 := 26) (lv2 := [(0, .inr (.inr (some (331)))), (1, .inl (v1)), (2, .inl (v2)), (3, .inl (v3)), (4, .inl (v4))]) (st2 := [.inl (v4), .inr (.inr (some (342))), .inl (v2)]) rfl ?_
      obtain ⟨g2, h⟩ := sd_if h
      refine sd_b_ai (sd_oa sd_o_331 (by decide) (off := 11) (List.mem_of_getElem? (i := 10) rfl)) g2 rfl ?_
      refine sd_b_go 4 (pc2 := 7) (lv2 := [(4, .inl (sd_w (v4 + 1))), (2, .inl (sd_w (v2 + (M 342 v4.toNat)))), (0, .inr (.inr (some (331)))), (1, .inl (v1)), (3, .inl (v3))]) (st2 := []) rfl ?_
      refine sd_b_wk [(0, .inr (.inr (some (331)))), (1, .inl (v1)), (2, .inl (sd_w (v2 + (M 342 v4.toNat)))), (3, .inl (v3)), (4, .inl (sd_w (v4 + 1)))] (List.forall_mem_cons.mpr ⟨rfl, (List.forall_mem_cons.mpr ⟨rfl, (List.forall_mem_cons.mpr ⟨rfl, (List.forall_mem_cons.mpr ⟨rfl, (List.forall_mem_cons.mpr ⟨rfl, (fun _ h0 => absurd h0 List.not_mem_nil)⟩)⟩)⟩)⟩)⟩) ?_
      exact ih v1 (sd_w (v2 + (M 342 v4.toNat))) v3 (sd_w (v4 + 1)) M _ h
def f_X10_parts_75 (k38 : Int → Int → Int → Int → sd_M → Option (Int × sd_M)) (k92 : Int → Int → Int → sd_M → Option (Int × sd_M)) (v1 : Int) (v2 : Int) (v3 : Int) (v4 : Int) (s0 : Int) (s1 : Int) (M : sd_M) : Option (Int × sd_M) := if 0 ≤ s1 ∧ s1 < 9 then (if 0 ≤ v4 ∧ v4 < 9 then (k38 v1 v2 (sd_w (v3 - ((sd_s M 343 s1.toNat s0) 343 v4.toNat))) (sd_w (v4 + 1)) (sd_s M 343 s1.toNat s0)) else none) else none
set_option maxRecDepth 4000 in
theorem t_X10_parts_75 {X : Nat → List sd_V → List sd_E → sd_A → Prop} {d : Nat} (hd : 0 ≤ d) (k38 : Int → Int → Int → Int → sd_M → Option (Int × sd_M)) (k92 : Int → Int → Int → sd_M → Option (Int × sd_M)) (hk38 : ∀ (v1 : Int) (v2 : Int) (v3 : Int) (v4 : Int) (M : sd_M) (Rr : Int × sd_M), k38 v1 v2 v3 v4 M = some Rr → sd_B X d sd_q_X10_parts 38 [(0, .inr (.inr (some (331)))), (1, .inl (v1)), (2, .inl (v2)), (3, .inl (v3)), (4, .inl (v4))] [] M (none, sd_rp Rr.2, 0, 0)) (hk92 : ∀ (v1 : Int) (v2 : Int) (v3 : Int) (M : sd_M) (Rr : Int × sd_M), k92 v1 v2 v3 M = some Rr → sd_B X d sd_q_X10_parts 92 [(0, .inr (.inr (some (331)))), (1, .inl (v1)), (2, .inl (v2)), (3, .inl (v3))] [] M (none, sd_rp Rr.2, 0, 0)) (v1 : Int) (v2 : Int) (v3 : Int) (v4 : Int) (s0 : Int) (s1 : Int) (M : sd_M) (Rr : Int × sd_M) (h : f_X10_parts_75 k38 k92 v1 v2 v3 v4 s0 s1 M = some Rr) : sd_B X d sd_q_X10_parts 75 [(0, .inr (.inr (some (331)))), (1, .inl (v1)), (2, .inl (v2)), (3, .inl (v3)), (4, .inl (v4))] [.inl (s0), .inl (s1), .inr (.inr (some (343)))] M (none, sd_rp Rr.2, 0, 0) := by
  unfold f_X10_parts_75 at h
  obtain ⟨g1, h⟩ := sd_if h
  refine sd_b_si (sd_oa sd_o_331 (by decide) (off := 12) (List.mem_of_getElem? (i := 11) rfl)) g1 rfl ?_
  refine sd_b_go 2 (pc2 := 78) (lv2 := [(0, .inr (.inr (some (331)))), (1, .inl (v1)), (2, .inl (v2)), (3, .inl (v3)), (4, .inl (v4))]) (st2 := [.inr (.inr (some (331))), .inl (v3)]) rfl ?_
  refine sd_b_gr (k := 24) sd_o_331 rfl rfl rfl ?_
  refine sd_b_go 1 (pc2 := 83) (lv2 := [(0, .inr (.inr (some (331)))), (1, .inl (v1)), (2, .inl (v2)), (3, .inl (v3)), (4, .inl (v4))]) (st2 := [.inl (v4), .inr (.inr (some (343))), .inl (v3)]) rfl ?_
  obtain ⟨g2, h⟩ := sd_if h
  refine sd_b_ai (sd_oa sd_o_331 (by decide) (off := 12) (List.mem_of_getElem? (i := 11) rfl)) g2 rfl ?_
  refine sd_b_go 4 (pc2 := 38) (lv2 := [(4, .inl (sd_w (v4 + 1))), (3, .inl (sd_w (v3 - ((sd_s M 343 s1.toNat s0) 343 v4.toNat)))), (0, .inr (.inr (some (331)))), (1, .inl (v1)), (2, .inl (v2))]) (st2 := []) rfl ?_
  refine sd_b_wk [(0, .inr (.inr (some (331)))), (1, .inl (v1)), (2, .inl (v2)), (3, .inl (sd_w (v3 - ((sd_s M 343 s1.toNat s0) 343 v4.toNat)))), (4, .inl (sd_w (v4 + 1)))] (List.forall_mem_cons.mpr ⟨rfl, (List.forall_mem_cons.mpr ⟨rfl, (List.forall_mem_cons.mpr ⟨rfl, (List.forall_mem_cons.mpr ⟨rfl, (List.forall_mem_cons.mpr ⟨rfl, (fun _ h0 => absurd h0 List.not_mem_nil)⟩)⟩)⟩)⟩)⟩) ?_
  exact hk38 v1 v2 (sd_w (v3 - ((sd_s M 343 s1.toNat s0) 343 v4.toNat))) (sd_w (v4 + 1)) (sd_s M 343 s1.toNat s0) _ h
def f_X10_parts_38 (k92 : Int → Int → Int → sd_M → Option (Int × sd_M)) : Nat → Int → Int → Int → Int → sd_M → Option (Int × sd_M)
  | 0, _, _, _, _, _ => none
  | n + 1, v1, v2, v3, v4, M => if (M 341 60) ≤ v4 then (k92 v1 v2 v3 M) else (if v2 = 0 then (f_X10_parts_75 (f_X10_parts_38 k92 n) k92 v1 v2 v3 v4 0 v4 M) else (if 0 ≤ v4 ∧ v4 < 9 then (if v2 ≠ 0 then (f_X10_parts_75 (f_X10_parts_38 k92 n) k92 v1 v2 v3 v4 (sd_w (Int.tdiv (sd_w (v1 * (M 342 v4.toNat))) v2)) v4 M) else none) else none))
set_option maxRecDepth 4000 in
theorem t_X10_parts_38 {X : Nat → List sd_V → List sd_E → sd_A → Prop} {d : Nat} (hd : 0 ≤ d) (k92 : Int → Int → Int → sd_M → Option (Int × sd_M)) (hk92 : ∀ (v1 : Int) (v2 : Int) (v3 : Int) (M : sd_M) (Rr : Int × sd_M), k92 v1 v2 v3 M = some Rr → sd_B X d sd_q_X10_parts 92 [(0, .inr (.inr (some (331)))), (1, .inl (v1)), (2, .inl (v2)), (3, .inl (v3))] [] M (none, sd_rp Rr.2, 0, 0)) : ∀ (n : Nat) (v1 : Int) (v2 : Int) (v3 : Int) (v4 : Int) (M : sd_M) (Rr : Int × sd_M), f_X10_parts_38 k92 n v1 v2 v3 v4 M = some Rr → sd_B X d sd_q_X10_parts 38 [(0, .inr (.inr (some (331)))), (1, .inl (v1)), (2, .inl (v2)), (3, .inl (v3)), (4, .inl (v4))] [] M (none, sd_rp Rr.2, 0, 0) := by
  intro n
  induction n with
  | zero => intro v1 v2 v3 v4 M Rr h; cases h
  | succ n ih =>
    intro v1 v2 v3 v4 M Rr h
    rw [f_X10_parts_38] at h
    refine sd_b_go 2 (pc2 := 41) (lv2 := [(0, .inr (.inr (some (331)))), (1, .inl (v1)), (2, .inl (v2)), (3, .inl (v3)), (4, .inl (v4))]) (st2 := [.inr (.inr (some (331))), .inl (v4)]) rfl ?_
    refine sd_b_gr (k := 20) sd_o_331 rfl rfl rfl ?_
    refine sd_b_go 1 (pc2 := 46) (lv2 := [(0, .inr (.inr (some (331)))), (1, .inl (v1)), (2, .inl (v2)), (3, .inl (v3)), (4, .inl (v4))]) (st2 := [.inl (60), .inr (.inr (some (341))), .inl (v4)]) rfl ?_
    refine sd_b_ai (i := 60) (sd_oa sd_o_331 (by decide) (off := 10) (List.mem_of_getElem? (i := 9) rfl)) (by decide) rfl ?_
    by_cases c1 : (M 341 60) ≤ v4
    · rw [if_pos c1] at h
      refine sd_b_ct (c := .ge) (tgt := 92) rfl (decide_eq_true c1) (by decide) ?_
      refine sd_b_wk [(0, .inr (.inr (some (331)))), (1, .inl (v1)), (2, .inl (v2)), (3, .inl (v3))] (List.forall_mem_cons.mpr ⟨rfl, (List.forall_mem_cons.mpr ⟨rfl, (List.forall_mem_cons.mpr ⟨rfl, (List.forall_mem_cons.mpr ⟨rfl, (fun _ h0 => absurd h0 List.not_mem_nil)⟩)⟩)⟩)⟩) ?_
      exact hk92 v1 v2 v3 M _ h
    · rw [if_neg c1] at h
      refine sd_b_cf (c := .ge) rfl (decide_eq_false c1) (by decide) ?_
      refine sd_b_go 1 (pc2 := 51) (lv2 := [(0, .inr (.inr (some (331)))), (1, .inl (v1)), (2, .inl (v2)), (3, .inl (v3)), (4, .inl (v4))]) (st2 := [.inr (.inr (some (331)))]) rfl ?_
      refine sd_b_gr (k := 24) sd_o_331 rfl rfl rfl ?_
      refine sd_b_go 2 (pc2 := 57) (lv2 := [(0, .inr (.inr (some (331)))), (1, .inl (v1)), (2, .inl (v2)), (3, .inl (v3)), (4, .inl (v4))]) (st2 := [.inl (v2), .inl (v4), .inr (.inr (some (343)))]) rfl ?_
      by_cases c2 : v2 = 0
      · rw [if_pos c2] at h
        refine sd_b_zf (c := .ne) rfl (decide_eq_false (not_not_intro c2)) (by decide) ?_
        refine sd_b_go 2 (pc2 := 75) (lv2 := [(0, .inr (.inr (some (331)))), (1, .inl (v1)), (2, .inl (v2)), (3, .inl (v3)), (4, .inl (v4))]) (st2 := [.inl (0), .inl (v4), .inr (.inr (some (343)))]) rfl ?_
        refine sd_b_wk [(0, .inr (.inr (some (331)))), (1, .inl (v1)), (2, .inl (v2)), (3, .inl (v3)), (4, .inl (v4))] (List.forall_mem_cons.mpr ⟨rfl, (List.forall_mem_cons.mpr ⟨rfl, (List.forall_mem_cons.mpr ⟨rfl, (List.forall_mem_cons.mpr ⟨rfl, (List.forall_mem_cons.mpr ⟨rfl, (fun _ h0 => absurd h0 List.not_mem_nil)⟩)⟩)⟩)⟩)⟩) ?_
        exact t_X10_parts_75 hd (f_X10_parts_38 k92 n) k92 ih hk92 v1 v2 v3 v4 0 v4 M _ h
      · rw [if_neg c2] at h
        refine sd_b_zt (c := .ne) (tgt := 64) rfl (decide_eq_true c2) (by decide) ?_
        refine sd_b_go 2 (pc2 := 66) (lv2 := [(0, .inr (.inr (some (331)))), (1, .inl (v1)), (2, .inl (v2)), (3, .inl (v3)), (4, .inl (v4))]) (st2 := [.inr (.inr (some (331))), .inl (v1), .inl (v4), .inr (.inr (some (343)))]) rfl ?_
        refine sd_b_gr (k := 23) sd_o_331 rfl rfl rfl ?_
        refine sd_b_go 1 (pc2 := 71) (lv2 := [(0, .inr (.inr (some (331)))), (1, .inl (v1)), (2, .inl (v2)), (3, .inl (v3)), (4, .inl (v4))]) (st2 := [.inl (v4), .inr (.inr (some (342))), .inl (v1), .inl (v4), .inr (.inr (some (343)))]) rfl ?_
        obtain ⟨g3, h⟩ := sd_if h
        refine sd_b_ai (sd_oa sd_o_331 (by decide) (off := 11) (List.mem_of_getElem? (i := 10) rfl)) g3 rfl ?_
        refine sd_b_go 2 (pc2 := 74) (lv2 := [(0, .inr (.inr (some (331)))), (1, .inl (v1)), (2, .inl (v2)), (3, .inl (v3)), (4, .inl (v4))]) (st2 := [.inl (v2), .inl (sd_w (v1 * (M 342 v4.toNat))), .inl (v4), .inr (.inr (some (343)))]) rfl ?_
        obtain ⟨g4, h⟩ := sd_if h
        refine sd_b_dz g4 rfl rfl ?_
        refine sd_b_wk [(0, .inr (.inr (some (331)))), (1, .inl (v1)), (2, .inl (v2)), (3, .inl (v3)), (4, .inl (v4))] (List.forall_mem_cons.mpr ⟨rfl, (List.forall_mem_cons.mpr ⟨rfl, (List.forall_mem_cons.mpr ⟨rfl, (List.forall_mem_cons.mpr ⟨rfl, (List.forall_mem_cons.mpr ⟨rfl, (fun _ h0 => absurd h0 List.not_mem_nil)⟩)⟩)⟩)⟩)⟩) ?_
        exact t_X10_parts_75 hd (f_X10_parts_38 k92 n) k92 ih hk92 v1 v2 v3 v4 (sd_w (Int.tdiv (sd_w (v1 * (M 342 v4.toNat))) v2)) v4 M _ h
def f_X10_parts_183 (k130 : Int → Int → Int → Int → Int → Int → Int → sd_M → Option (Int × sd_M)) (k192 : Int → Int → Int → Int → Int → sd_M → Option (Int × sd_M)) (v1 : Int) (v2 : Int) (v3 : Int) (v4 : Int) (v6 : Int) (v7 : Int) (s0 : Int) (s1 : Int) (M : sd_M) : Option (Int × sd_M) := k130 v1 v2 v3 v4 (sd_w (s1 + s0)) v6 (sd_w (v7 + 1)) M
set_option maxRecDepth 4000 in
theorem t_X10_parts_183 {X : Nat → List sd_V → List sd_E → sd_A → Prop} {d : Nat} (hd : 0 ≤ d) (k130 : Int → Int → Int → Int → Int → Int → Int → sd_M → Option (Int × sd_M)) (k192 : Int → Int → Int → Int → Int → sd_M → Option (Int × sd_M)) (hk130 : ∀ (v1 : Int) (v2 : Int) (v3 : Int) (v4 : Int) (v5 : Int) (v6 : Int) (v7 : Int) (M : sd_M) (Rr : Int × sd_M), k130 v1 v2 v3 v4 v5 v6 v7 M = some Rr → sd_B X d sd_q_X10_parts 130 [(0, .inr (.inr (some (331)))), (1, .inl (v1)), (2, .inl (v2)), (3, .inl (v3)), (4, .inl (v4)), (5, .inl (v5)), (6, .inl (v6)), (7, .inl (v7))] [] M (none, sd_rp Rr.2, 0, 0)) (hk192 : ∀ (v1 : Int) (v2 : Int) (v3 : Int) (v4 : Int) (v5 : Int) (M : sd_M) (Rr : Int × sd_M), k192 v1 v2 v3 v4 v5 M = some Rr → sd_B X d sd_q_X10_parts 192 [(0, .inr (.inr (some (331)))), (1, .inl (v1)), (2, .inl (v2)), (3, .inl (v3)), (4, .inl (v4)), (5, .inl (v5))] [] M (none, sd_rp Rr.2, 0, 0)) (v1 : Int) (v2 : Int) (v3 : Int) (v4 : Int) (v6 : Int) (v7 : Int) (s0 : Int) (s1 : Int) (M : sd_M) (Rr : Int × sd_M) (h : f_X10_parts_183 k130 k192 v1 v2 v3 v4 v6 v7 s0 s1 M = some Rr) : sd_B X d sd_q_X10_parts 183 [(0, .inr (.inr (some (331)))), (1, .inl (v1)), (2, .inl (v2)), (3, .inl (v3)), (4, .inl (v4)), (6, .inl (v6)), (7, .inl (v7))] [.inl (s0), .inl (s1)] M (none, sd_rp Rr.2, 0, 0) := by
  unfold f_X10_parts_183 at h
  refine sd_b_go 4 (pc2 := 130) (lv2 := [(7, .inl (sd_w (v7 + 1))), (5, .inl (sd_w (s1 + s0))), (0, .inr (.inr (some (331)))), (1, .inl (v1)), (2, .inl (v2)), (3, .inl (v3)), (4, .inl (v4)), (6, .inl (v6))]) (st2 := []) rfl ?_
  refine sd_b_wk [(0, .inr (.inr (some (331)))), (1, .inl (v1)), (2, .inl (v2)), (3, .inl (v3)), (4, .inl (v4)), (5, .inl (sd_w (s1 + s0))), (6, .inl (v6)), (7, .inl (sd_w (v7 + 1)))] (List.forall_mem_cons.mpr ⟨rfl, (List.forall_mem_cons.mpr ⟨rfl, (List.forall_mem_cons.mpr ⟨rfl, (List.forall_mem_cons.mpr ⟨rfl, (List.forall_mem_cons.mpr ⟨rfl, (List.forall_mem_cons.mpr ⟨rfl, (List.forall_mem_cons.mpr ⟨rfl, (List.forall_mem_cons.mpr ⟨rfl, (fun _ h0 => absurd h0 List.not_mem_nil)⟩)⟩)⟩)⟩)⟩)⟩)⟩)⟩) ?_
  exact hk130 v1 v2 v3 v4 (sd_w (s1 + s0)) v6 (sd_w (v7 + 1)) M _ h
def f_X10_parts_178 (k130 : Int → Int → Int → Int → Int → Int → Int → sd_M → Option (Int × sd_M)) (k192 : Int → Int → Int → Int → Int → sd_M → Option (Int × sd_M)) (v1 : Int) (v2 : Int) (v3 : Int) (v4 : Int) (v6 : Int) (v7 : Int) (s0 : Int) (M : sd_M) : Option (Int × sd_M) := f_X10_parts_183 k130 k192 v1 v2 v3 v4 v6 v7 1 s0 M
set_option maxRecDepth 4000 in
theorem t_X10_parts_178 {X : Nat → List sd_V → List sd_E → sd_A → Prop} {d : Nat} (hd : 0 ≤ d) (k130 : Int → Int → Int → Int → Int → Int → Int → sd_M → Option (Int × sd_M)) (k192 : Int → Int → Int → Int → Int → sd_M → Option (Int × sd_M)) (hk130 : ∀ (v1 : Int) (v2 : Int) (v3 : Int) (v4 : Int) (v5 : Int) (v6 : Int) (v7 : Int) (M : sd_M) (Rr : Int × sd_M), k130 v1 v2 v3 v4 v5 v6 v7 M = some Rr → sd_B X d sd_q_X10_parts 130 [(0, .inr (.inr (some (331)))), (1, .inl (v1)), (2, .inl (v2)), (3, .inl (v3)), (4, .inl (v4)), (5, .inl (v5)), (6, .inl (v6)), (7, .inl (v7))] [] M (none, sd_rp Rr.2, 0, 0)) (hk192 : ∀ (v1 : Int) (v2 : Int) (v3 : Int) (v4 : Int) (v5 : Int) (M : sd_M) (Rr : Int × sd_M), k192 v1 v2 v3 v4 v5 M = some Rr → sd_B X d sd_q_X10_parts 192 [(0, .inr (.inr (some (331)))), (1, .inl (v1)), (2, .inl (v2)), (3, .inl (v3)), (4, .inl (v4)), (5, .inl (v5))] [] M (none, sd_rp Rr.2, 0, 0)) (v1 : Int) (v2 : Int) (v3 : Int) (v4 : Int) (v6 : Int) (v7 : Int) (s0 : Int) (M : sd_M) (Rr : Int × sd_M) (h : f_X10_parts_178 k130 k192 v1 v2 v3 v4 v6 v7 s0 M = some Rr) : sd_B X d sd_q_X10_parts 178 [(0, .inr (.inr (some (331)))), (1, .inl (v1)), (2, .inl (v2)), (3, .inl (v3)), (4, .inl (v4)), (6, .inl (v6)), (7, .inl (v7))] [.inl (s0)] M (none, sd_rp Rr.2, 0, 0) := by
  unfold f_X10_parts_178 at h
  refine sd_b_go 2 (pc2 := 183) (lv2 := [(0, .inr (.inr (some (331)))), (1, .inl (v1)), (2, .inl (v2)), (3, .inl (v3)), (4, .inl (v4)), (6, .inl (v6)), (7, .inl (v7))]) (st2 := [.inl (1), .inl (s0)]) rfl ?_
  refine sd_b_wk [(0, .inr (.inr (some (331)))), (1, .inl (v1)), (2, .inl (v2)), (3, .inl (v3)), (4, .inl (v4)), (6, .inl (v6)), (7, .inl (v7))] (List.forall_mem_cons.mpr ⟨rfl, (List.forall_mem_cons.mpr ⟨rfl, (List.forall_mem_cons.mpr ⟨rfl, (List.forall_mem_cons.mpr ⟨rfl, (List.forall_mem_cons.mpr ⟨rfl, (List.forall_mem_cons.mpr ⟨rfl, (List.forall_mem_cons.mpr ⟨rfl, (fun _ h0 => absurd h0 List.not_mem_nil)⟩)⟩)⟩)⟩)⟩)⟩)⟩) ?_
  exact t_X10_parts_183 hd k130 k192 hk130 hk192 v1 v2 v3 v4 v6 v7 1 s0 M _ h
def f_X10_parts_182 (k130 : Int → Int → Int → Int → Int → Int → Int → sd_M → Option (Int × sd_M)) (k192 : Int → Int → Int → Int → Int → sd_M → Option (Int × sd_M)) (v1 : Int) (v2 : Int) (v3 : Int) (v4 : Int) (v6 : Int) (v7 : Int) (s0 : Int) (M : sd_M) : Option (Int × sd_M) := f_X10_parts_183 k130 k192 v1 v2 v3 v4 v6 v7 0 s0 M
set_option maxRecDepth 4000 in
theorem t_X10_parts_182 {X : Nat → List sd_V → List sd_E → sd_A → Prop} {d : Nat} (hd : 0 ≤ d) (k130 : Int → Int → Int → Int → Int → Int → Int → sd_M → Option (Int × sd_M)) (k192 : Int → Int → Int → Int → Int → sd_M → Option (Int × sd_M)) (hk130 : ∀ (v1 : Int) (v2 : Int) (v3 : Int) (v4 : Int) (v5 : Int) (v6 : Int) (v7 : Int) (M : sd_M) (Rr : Int × sd_M), k130 v1 v2 v3 v4 v5 v6 v7 M = some Rr → sd_B X d sd_q_X10_parts 130 [(0, .inr (.inr (some (331)))), (1, .inl (v1)), (2, .inl (v2)), (3, .inl (v3)), (4, .inl (v4)), (5, .inl (v5)), (6, .inl (v6)), (7, .inl (v7))] [] M (none, sd_rp Rr.2, 0, 0)) (hk192 : ∀ (v1 : Int) (v2 : Int) (v3 : Int) (v4 : Int) (v5 : Int) (M : sd_M) (Rr : Int × sd_M), k192 v1 v2 v3 v4 v5 M = some Rr → sd_B X d sd_q_X10_parts 192 [(0, .inr (.inr (some (331)))), (1, .inl (v1)), (2, .inl (v2)), (3, .inl (v3)), (4, .inl (v4)), (5, .inl (v5))] [] M (none, sd_rp Rr.2, 0, 0)) (v1 : Int) (v2 : Int) (v3 : Int) (v4 : Int) (v6 : Int) (v7 : Int) (s0 : Int) (M : sd_M) (Rr : Int × sd_M) (h : f_X10_parts_182 k130 k192 v1 v2 v3 v4 v6 v7 s0 M = some Rr) : sd_B X d sd_q_X10_parts 182 [(0, .inr (.inr (some (331)))), (1, .inl (v1)), (2, .inl (v2)), (3, .inl (v3)), (4, .inl (v4)), (6, .inl (v6)), (7, .inl (v7))] [.inl (s0)] M (none, sd_rp Rr.2, 0, 0) := by
  unfold f_X10_parts_182 at h
  refine sd_b_go 1 (pc2 := 183) (lv2 := [(0, .inr (.inr (some (331)))), (1, .inl (v1)), (2, .inl (v2)), (3, .inl (v3)), (4, .inl (v4)), (6, .inl (v6)), (7, .inl (v7))]) (st2 := [.inl (0), .inl (s0)]) rfl ?_
  refine sd_b_wk [(0, .inr (.inr (some (331)))), (1, .inl (v1)), (2, .inl (v2)), (3, .inl (v3)), (4, .inl (v4)), (6, .inl (v6)), (7, .inl (v7))] (List.forall_mem_cons.mpr ⟨rfl, (List.forall_mem_cons.mpr ⟨rfl, (List.forall_mem_cons.mpr ⟨rfl, (List.forall_mem_cons.mpr ⟨rfl, (List.forall_mem_cons.mpr ⟨rfl, (List.forall_mem_cons.mpr ⟨rfl, (List.forall_mem_cons.mpr ⟨rfl, (fun _ h0 => absurd h0 List.not_mem_nil)⟩)⟩)⟩)⟩)⟩)⟩)⟩) ?_
  exact t_X10_parts_183 hd k130 k192 hk130 hk192 v1 v2 v3 v4 v6 v7 0 s0 M _ h
def f_X10_parts_130 (k192 : Int → Int → Int → Int → Int → sd_M → Option (Int × sd_M)) : Nat → Int → Int → Int → Int → Int → Int → Int → sd_M → Option (Int × sd_M)
  | 0, _, _, _, _, _, _, _, _ => none
  | n + 1, v1, v2, v3, v4, v5, v6, v7, M => if (M 341 60) ≤ v7 then (k192 v1 v2 v3 v4 v5 M) else (if 0 ≤ v7 ∧ v7 < 9 then (if v2 ≠ 0 then (if v6 < (Int.tmod (sd_w (v1 * (M 342 v7.toNat))) v2) then (f_X10_parts_178 (f_X10_parts_130 k192 n) k192 v1 v2 v3 v4 v6 v7 v5 M) else (if (Int.tmod (sd_w (v1 * (M 342 v7.toNat))) v2) = v6 then (if v4 ≤ v7 then (f_X10_parts_182 (f_X10_parts_130 k192 n) k192 v1 v2 v3 v4 v6 v7 v5 M) else (f_X10_parts_178 (f_X10_parts_130 k192 n) k192 v1 v2 v3 v4 v6 v7 v5 M)) else (f_X10_parts_182 (f_X10_parts_130 k192 n) k192 v1 v2 v3 v4 v6 v7 v5 M))) else none) else none)
set_option maxRecDepth 4000 in
theorem t_X10_parts_130 {X : Nat → List sd_V → List sd_E → sd_A → Prop} {d : Nat} (hd : 0 ≤ d) (k192 : Int → Int → Int → Int → Int → sd_M → Option (Int × sd_M)) (hk192 : ∀ (v1 : Int) (v2 : Int) (v3 : Int) (v4 : Int) (v5 : Int) (M : sd_M) (Rr : Int × sd_M), k192 v1 v2 v3 v4 v5 M = some Rr → sd_B X d sd_q_X10_parts 192 [(0, .inr (.inr (some (331)))), (1, .inl (v1)), (2, .inl (v2)), (3, .inl (v3)), (4, .inl (v4)), (5, .inl (v5))] [] M (none, sd_rp Rr.2, 0, 0)) : ∀ (n : Nat) (v1 : Int) (v2 : Int) (v3 : Int) (v4 : Int) (v5 : Int) (v6 : Int) (v7 : Int) (M : sd_M) (Rr : Int × sd_M), f_X10_parts_130 k192 n v1 v2 v3 v4 v5 v6 v7 M = some Rr → sd_B X d sd_q_X10_parts 130 [(0, .inr (.inr (some (331)))), (1, .inl (v1)), (2, .inl (v2)), (3, .inl (v3)), (4, .inl (v4)), (5, .inl (v5)), (6, .inl (v6)), (7, .inl (v7))] [] M (none, sd_rp Rr.2, 0, 0) := by
  intro n
  induction n with
  | zero => intro v1 v2 v3 v4 v5 v6 v7 M Rr h; cases h
  | succ n ih =>
    intro v1 v2 v3 v4 v5 v6 v7 M Rr h
    rw [f_X10_parts_130] at h
    refine sd_b_go 2 (pc2 := 133) (lv2 := [(0, .inr (.inr (some (331)))), (1, .inl (v1)), (2, .inl (v2)), (3, .inl (v3)), (4, .inl (v4)), (5, .inl (v5)), (6, .inl (v6)), (7, .inl (v7))]) (st2 := [.inr (.inr (some (331))), .inl (v7)]) rfl ?_
    refine sd_b_gr (k := 20) sd_o_331 rfl rfl rfl ?_
    refine sd_b_go 1 (pc2 := 138) (lv2 := [(0, .inr (.inr (some (331)))), (1, .inl (v1)), (2, .inl (v2)), (3, .inl (v3)), (4, .inl (v4)), (5, .inl (v5)), (6, .inl (v6)), (7, .inl (v7))]) (st2 := [.inl (60), .inr (.inr (some (341))), .inl (v7)]) rfl ?_
    refine sd_b_ai (i := 60) (sd_oa sd_o_331 (by decide) (off := 10) (List.mem_of_getElem? (i := 9) rfl)) (by decide) rfl ?_
    by_cases c1 : (M 341 60) ≤ v7
    · rw [if_pos c1] at h
      refine sd_b_ct (c := .ge) (tgt := 192) rfl (decide_eq_true c1) (by decide) ?_
      refine sd_b_wk [(0, .inr (.inr (some (331)))), (1, .inl (v1)), (2, .inl (v2)), (3, .inl (v3)), (4, .inl (v4)), (5, .inl (v5))] (List.forall_mem_cons.mpr ⟨rfl, (List.forall_mem_cons.mpr ⟨rfl, (List.forall_mem_cons.mpr ⟨rfl, (List.forall_mem_cons.mpr ⟨rfl, (List.forall_mem_cons.mpr ⟨rfl, (List.forall_mem_cons.mpr ⟨rfl, (fun _ h0 => absurd h0 List.not_mem_nil)⟩)⟩)⟩)⟩)⟩)⟩) ?_
      exact hk192 v1 v2 v3 v4 v5 M _ h
    · rw [if_neg c1] at h
      refine sd_b_cf (c := .ge) rfl (decide_eq_false c1) (by decide) ?_
      refine sd_b_go 2 (pc2 := 144) (lv2 := [(0, .inr (.inr (some (331)))), (1, .inl (v1)), (2, .inl (v2)), (3, .inl (v3)), (4, .inl (v4)), (5, .inl (v5)), (6, .inl (v6)), (7, .inl (v7))]) (st2 := [.inr (.inr (some (331))), .inl (v1)]) rfl ?_
      refine sd_b_gr (k := 23) sd_o_331 rfl rfl rfl ?_
      refine sd_b_go 1 (pc2 := 149) (lv2 := [(0, .inr (.inr (some (331)))), (1, .inl (v1)), (2, .inl (v2)), (3, .inl (v3)), (4, .inl (v4)), (5, .inl (v5)), (6, .inl (v6)), (7, .inl (v7))]) (st2 := [.inl (v7), .inr (.inr (some (342))), .inl (v1)]) rfl ?_
      obtain ⟨g2, h⟩ := sd_if h
      refine sd_b_ai (sd_oa sd_o_331 (by decide) (off := 11) (List.mem_of_getElem? (i := 10) rfl)) g2 rfl ?_
      refine sd_b_go 2 (pc2 := 152) (lv2 := [(0, .inr (.inr (some (331)))), (1, .inl (v1)), (2, .inl (v2)), (3, .inl (v3)), (4, .inl (v4)), (5, .inl (v5)), (6, .inl (v6)), (7, .inl (v7))]) (st2 := [.inl (v2), .inl (sd_w (v1 * (M 342 v7.toNat)))]) rfl ?_
      obtain ⟨g3, h⟩ := sd_if h
      refine sd_b_mz g3 rfl ?_
      refine sd_b_go 4 (pc2 := 161) (lv2 := [(8, .inl (Int.tmod (sd_w (v1 * (M 342 v7.toNat))) v2)), (0, .inr (.inr (some (331)))), (1, .inl (v1)), (2, .inl (v2)), (3, .inl (v3)), (4, .inl (v4)), (5, .inl (v5)), (6, .inl (v6)), (7, .inl (v7))]) (st2 := [.inl (v6), .inl (Int.tmod (sd_w (v1 * (M 342 v7.toNat))) v2), .inl (v5)]) rfl ?_
      by_cases c4 : v6 < (Int.tmod (sd_w (v1 * (M 342 v7.toNat))) v2)
      · rw [if_pos c4] at h
        refine sd_b_ct (c := .gt) (tgt := 178) rfl (decide_eq_true c4) (by decide) ?_
        refine sd_b_wk [(0, .inr (.inr (some (331)))), (1, .inl (v1)), (2, .inl (v2)), (3, .inl (v3)), (4, .inl (v4)), (6, .inl (v6)), (7, .inl (v7))] (List.forall_mem_cons.mpr ⟨rfl, (List.forall_mem_cons.mpr ⟨rfl, (List.forall_mem_cons.mpr ⟨rfl, (List.forall_mem_cons.mpr ⟨rfl, (List.forall_mem_cons.mpr ⟨rfl, (List.forall_mem_cons.mpr ⟨rfl, (List.forall_mem_cons.mpr ⟨rfl, (fun _ h0 => absurd h0 List.not_mem_nil)⟩)⟩)⟩)⟩)⟩)⟩)⟩) ?_
        exact t_X10_parts_178 hd (f_X10_parts_130 k192 n) k192 ih hk192 v1 v2 v3 v4 v6 v7 v5 M _ h
      · rw [if_neg c4] at h
        refine sd_b_cf (c := .gt) rfl (decide_eq_false c4) (by decide) ?_
        refine sd_b_go 2 (pc2 := 168) (lv2 := [(8, .inl (Int.tmod (sd_w (v1 * (M 342 v7.toNat))) v2)), (0, .inr (.inr (some (331)))), (1, .inl (v1)), (2, .inl (v2)), (3, .inl (v3)), (4, .inl (v4)), (5, .inl (v5)), (6, .inl (v6)), (7, .inl (v7))]) (st2 := [.inl (v6), .inl (Int.tmod (sd_w (v1 * (M 342 v7.toNat))) v2), .inl (v5)]) rfl ?_
        by_cases c5 : (Int.tmod (sd_w (v1 * (M 342 v7.toNat))) v2) = v6
        · rw [if_pos c5] at h
          refine sd_b_cf (c := .ne) rfl (decide_eq_false (not_not_intro c5)) (by decide) ?_
          refine sd_b_go 2 (pc2 := 175) (lv2 := [(8, .inl (Int.tmod (sd_w (v1 * (M 342 v7.toNat))) v2)), (0, .inr (.inr (some (331)))), (1, .inl (v1)), (2, .inl (v2)), (3, .inl (v3)), (4, .inl (v4)), (5, .inl (v5)), (6, .inl (v6)), (7, .inl (v7))]) (st2 := [.inl (v4), .inl (v7), .inl (v5)]) rfl ?_
          by_cases c6 : v4 ≤ v7
          · rw [if_pos c6] at h
            refine sd_b_ct (c := .ge) (tgt := 182) rfl (decide_eq_true c6) (by decide) ?_
            refine sd_b_wk [(0, .inr (.inr (some (331)))), (1, .inl (v1)), (2, .inl (v2)), (3, .inl (v3)), (4, .inl (v4)), (6, .inl (v6)), (7, .inl (v7))] (List.forall_mem_cons.mpr ⟨rfl, (List.forall_mem_cons.mpr ⟨rfl, (List.forall_mem_cons.mpr ⟨rfl, (List.forall_mem_cons.mpr ⟨rfl, (List.forall_mem_cons.mpr ⟨rfl, (List.forall_mem_cons.mpr ⟨rfl, (List.forall_mem_cons.mpr ⟨rfl, (fun _ h0 => absurd h0 List.not_mem_nil)⟩)⟩)⟩)⟩)⟩)⟩)⟩) ?_
            exact t_X10_parts_182 hd (f_X10_parts_130 k192 n) k192 ih hk192 v1 v2 v3 v4 v6 v7 v5 M _ h
          · rw [if_neg c6] at h
            refine sd_b_cf (c := .ge) rfl (decide_eq_false c6) (by decide) ?_
            refine sd_b_wk [(0, .inr (.inr (some (331)))), (1, .inl (v1)), (2, .inl (v2)), (3, .inl (v3)), (4, .inl (v4)), (6, .inl (v6)), (7, .inl (v7))] (List.forall_mem_cons.mpr ⟨rfl, (List.forall_mem_cons.mpr ⟨rfl, (List.forall_mem_cons.mpr ⟨rfl, (List.forall_mem_cons.mpr ⟨rfl, (List.forall_mem_cons.mpr ⟨rfl, (List.forall_mem_cons.mpr ⟨rfl, (List.forall_mem_cons.mpr ⟨rfl, (fun _ h0 => absurd h0 List.not_mem_nil)⟩)⟩)⟩)⟩)⟩)⟩)⟩) ?_
            exact t_X10_parts_178 hd (f_X10_parts_130 k192 n) k192 ih hk192 v1 v2 v3 v4 v6 v7 v5 M _ h
        · rw [if_neg c5] at h
          refine sd_b_ct (c := .ne) (tgt := 182) rfl (decide_eq_true c5) (by decide) ?_
          refine sd_b_wk [(0, .inr (.inr (some (331)))), (1, .inl (v1)), (2, .inl (v2)), (3, .inl (v3)), (4, .inl (v4)), (6, .inl (v6)), (7, .inl (v7))] (List.forall_mem_cons.mpr ⟨rfl, (List.forall_mem_cons.mpr ⟨rfl, (List.forall_mem_cons.mpr ⟨rfl, (List.forall_mem_cons.mpr ⟨rfl, (List.forall_mem_cons.mpr ⟨rfl, (List.forall_mem_cons.mpr ⟨rfl, (List.forall_mem_cons.mpr ⟨rfl, (fun _ h0 => absurd h0 List.not_mem_nil)⟩)⟩)⟩)⟩)⟩)⟩)⟩) ?_
          exact t_X10_parts_182 hd (f_X10_parts_130 k192 n) k192 ih hk192 v1 v2 v3 v4 v6 v7 v5 M _ h
def f_X10_parts_209 (k95 : Int → Int → Int → Int → sd_M → Option (Int × sd_M)) (v1 : Int) (v2 : Int) (v3 : Int) (v4 : Int) (M : sd_M) : Option (Int × sd_M) := k95 v1 v2 v3 (sd_w (v4 + 1)) M
set_option maxRecDepth 4000 in
theorem t_X10_parts_209 {X : Nat → List sd_V → List sd_E → sd_A → Prop} {d : Nat} (hd : 0 ≤ d) (k95 : Int → Int → Int → Int → sd_M → Option (Int × sd_M)) (hk95 : ∀ (v1 : Int) (v2 : Int) (v3 : Int) (v4 : Int) (M : sd_M) (Rr : Int × sd_M), k95 v1 v2 v3 v4 M = some Rr → sd_B X d sd_q_X10_parts 95 [(0, .inr (.inr (some (331)))), (1, .inl (v1)), (2, .inl (v2)), (3, .inl (v3)), (4, .inl (v4))] [] M (none, sd_rp Rr.2, 0, 0)) (v1 : Int) (v2 : Int) (v3 : Int) (v4 : Int) (M : sd_M) (Rr : Int × sd_M) (h : f_X10_parts_209 k95 v1 v2 v3 v4 M = some Rr) : sd_B X d sd_q_X10_parts 209 [(0, .inr (.inr (some (331)))), (1, .inl (v1)), (2, .inl (v2)), (3, .inl (v3)), (4, .inl (v4))] [] M (none, sd_rp Rr.2, 0, 0) := by
  unfold f_X10_parts_209 at h
  refine sd_b_go 2 (pc2 := 95) (lv2 := [(4, .inl (sd_w (v4 + 1))), (0, .inr (.inr (some (331)))), (1, .inl (v1)), (2, .inl (v2)), (3, .inl (v3))]) (st2 := []) rfl ?_
  refine sd_b_wk [(0, .inr (.inr (some (331)))), (1, .inl (v1)), (2, .inl (v2)), (3, .inl (v3)), (4, .inl (sd_w (v4 + 1)))] (List.forall_mem_cons.mpr ⟨rfl, (List.forall_mem_cons.mpr ⟨rfl, (List.forall_mem_cons.mpr ⟨rfl, (List.forall_mem_cons.mpr ⟨rfl, (List.forall_mem_cons.mpr ⟨rfl, (fun _ h0 => absurd h0 List.not_mem_nil)⟩)⟩)⟩)⟩)⟩) ?_
  exact hk95 v1 v2 v3 (sd_w (v4 + 1)) M _ h
def f_X10_parts_192 (k95 : Int → Int → Int → Int → sd_M → Option (Int × sd_M)) (v1 : Int) (v2 : Int) (v3 : Int) (v4 : Int) (v5 : Int) (M : sd_M) : Option (Int × sd_M) := if v3 ≤ v5 then (f_X10_parts_209 k95 v1 v2 v3 v4 M) else (if 0 ≤ v4 ∧ v4 < 9 then (if 0 ≤ v4 ∧ v4 < 9 then (f_X10_parts_209 k95 v1 v2 v3 v4 (sd_s M 343 v4.toNat (sd_w ((M 343 v4.toNat) + 1)))) else none) else none)
set_option maxRecDepth 4000 in
theorem t_X10_parts_192 {X : Nat → List sd_V → List sd_E → sd_A → Prop} {d : Nat} (hd : 0 ≤ d) (k95 : Int → Int → Int → Int → sd_M → Option (Int × sd_M)) (hk95 : ∀ (v1 : Int) (v2 : Int) (v3 : Int) (v4 : Int) (M : sd_M) (Rr : Int × sd_M), k95 v1 v2 v3 v4 M = some Rr → sd_B X d sd_q_X10_parts 95 [(0, .inr (.inr (some (331)))), (1, .inl (v1)), (2, .inl (v2)), (3, .inl (v3)), (4, .inl (v4))] [] M (none, sd_rp Rr.2, 0, 0)) (v1 : Int) (v2 : Int) (v3 : Int) (v4 : Int) (v5 : Int) (M : sd_M) (Rr : Int × sd_M) (h : f_X10_parts_192 k95 v1 v2 v3 v4 v5 M = some Rr) : sd_B X d sd_q_X10_parts 192 [(0, .inr (.inr (some (331)))), (1, .inl (v1)), (2, .inl (v2)), (3, .inl (v3)), (4, .inl (v4)), (5, .inl (v5))] [] M (none, sd_rp Rr.2, 0, 0) := by
  unfold f_X10_parts_192 at h
  refine sd_b_go 2 (pc2 := 195) (lv2 := [(0, .inr (.inr (some (331)))), (1, .inl (v1)), (2, .inl (v2)), (3, .inl (v3)), (4, .inl (v4)), (5, .inl (v5))]) (st2 := [.inl (v3), .inl (v5)]) rfl ?_
  by_cases c1 : v3 ≤ v5
  · rw [if_pos c1] at h
    refine sd_b_ct (c := .ge) (tgt := 209) rfl (decide_eq_true c1) (by decide) ?_
    refine sd_b_wk [(0, .inr (.inr (some (331)))), (1, .inl (v1)), (2, .inl (v2)), (3, .inl (v3)), (4, .inl (v4))] (List.forall_mem_cons.mpr ⟨rfl, (List.forall_mem_cons.mpr ⟨rfl, (List.forall_mem_cons.mpr ⟨rfl, (List.forall_mem_cons.mpr ⟨rfl, (List.forall_mem_cons.mpr ⟨rfl, (fun _ h0 => absurd h0 List.not_mem_nil)⟩)⟩)⟩)⟩)⟩) ?_
    exact t_X10_parts_209 hd k95 hk95 v1 v2 v3 v4 M _ h
  · rw [if_neg c1] at h
    refine sd_b_cf (c := .ge) rfl (decide_eq_false c1) (by decide) ?_
    refine sd_b_go 1 (pc2 := 199) (lv2 := [(0, .inr (.inr (some (331)))), (1, .inl (v1)), (2, .inl (v2)), (3, .inl (v3)), (4, .inl (v4)), (5, .inl (v5))]) (st2 := [.inr (.inr (some (331)))]) rfl ?_
    refine sd_b_gr (k := 24) sd_o_331 rfl rfl rfl ?_
    refine sd_b_go 2 (pc2 := 205) (lv2 := [(0, .inr (.inr (some (331)))), (1, .inl (v1)), (2, .inl (v2)), (3, .inl (v3)), (4, .inl (v4)), (5, .inl (v5))]) (st2 := [.inl (v4), .inr (.inr (some (343))), .inl (v4), .inr (.inr (some (343)))]) rfl ?_
    obtain ⟨g2, h⟩ := sd_if h
    refine sd_b_ai (sd_oa sd_o_331 (by decide) (off := 12) (List.mem_of_getElem? (i := 11) rfl)) g2 rfl ?_
    refine sd_b_go 2 (pc2 := 208) (lv2 := [(0, .inr (.inr (some (331)))), (1, .inl (v1)), (2, .inl (v2)), (3, .inl (v3)), (4, .inl (v4)), (5, .inl (v5))]) (st2 := [.inl (sd_w ((M 343 v4.toNat) + 1)), .inl (v4), .inr (.inr (some (343)))]) rfl ?_
    obtain ⟨g3, h⟩ := sd_if h
    refine sd_b_si (sd_oa sd_o_331 (by decide) (off := 12) (List.mem_of_getElem? (i := 11) rfl)) g3 rfl ?_
    refine sd_b_wk [(0, .inr (.inr (some (331)))), (1, .inl (v1)), (2, .inl (v2)), (3, .inl (v3)), (4, .inl (v4))] (List.forall_mem_cons.mpr ⟨rfl, (List.forall_mem_cons.mpr ⟨rfl, (List.forall_mem_cons.mpr ⟨rfl, (List.forall_mem_cons.mpr ⟨rfl, (List.forall_mem_cons.mpr ⟨rfl, (fun _ h0 => absurd h0 List.not_mem_nil)⟩)⟩)⟩)⟩)⟩) ?_
    exact t_X10_parts_209 hd k95 hk95 v1 v2 v3 v4 (sd_s M 343 v4.toNat (sd_w ((M 343 v4.toNat) + 1))) _ h
def f_X10_parts_95 : Nat → Int → Int → Int → Int → sd_M → Option (Int × sd_M)
  | 0, _, _, _, _, _ => none
  | n + 1, v1, v2, v3, v4, M => if (M 341 60) ≤ v4 then (some (0, M)) else (if v2 ≤ 0 then (some (0, M)) else (if 0 ≤ v4 ∧ v4 < 9 then (if v2 ≠ 0 then (f_X10_parts_130 (f_X10_parts_192 (f_X10_parts_95 n)) 4000 v1 v2 v3 v4 0 (Int.tmod (sd_w (v1 * (M 342 v4.toNat))) v2) 0 M) else none) else none))
set_option maxRecDepth 4000 in
theorem t_X10_parts_95 {X : Nat → List sd_V → List sd_E → sd_A → Prop} {d : Nat} (hd : 0 ≤ d) : ∀ (n : Nat) (v1 : Int) (v2 : Int) (v3 : Int) (v4 : Int) (M : sd_M) (Rr : Int × sd_M), f_X10_parts_95 n v1 v2 v3 v4 M = some Rr → sd_B X d sd_q_X10_parts 95 [(0, .inr (.inr (some (331)))), (1, .inl (v1)), (2, .inl (v2)), (3, .inl (v3)), (4, .inl (v4))] [] M (none, sd_rp Rr.2, 0, 0) := by
  intro n
  induction n with
  | zero => intro v1 v2 v3 v4 M Rr h; cases h
  | succ n ih =>
    intro v1 v2 v3 v4 M Rr h
    rw [f_X10_parts_95] at h
    refine sd_b_go 2 (pc2 := 98) (lv2 := [(0, .inr (.inr (some (331)))), (1, .inl (v1)), (2, .inl (v2)), (3, .inl (v3)), (4, .inl (v4))]) (st2 := [.inr (.inr (some (331))), .inl (v4)]) rfl ?_
    refine sd_b_gr (k := 20) sd_o_331 rfl rfl rfl ?_
    refine sd_b_go 1 (pc2 := 103) (lv2 := [(0, .inr (.inr (some (331)))), (1, .inl (v1)), (2, .inl (v2)), (3, .inl (v3)), (4, .inl (v4))]) (st2 := [.inl (60), .inr (.inr (some (341))), .inl (v4)]) rfl ?_
    refine sd_b_ai (i := 60) (sd_oa sd_o_331 (by decide) (off := 10) (List.mem_of_getElem? (i := 9) rfl)) (by decide) rfl ?_
    by_cases c1 : (M 341 60) ≤ v4
    · rw [if_pos c1] at h
      refine sd_b_ct (c := .ge) (tgt := 215) rfl (decide_eq_true c1) (by decide) ?_
      cases h
      exact sd_b_rt rfl rfl rfl
    · rw [if_neg c1] at h
      refine sd_b_cf (c := .ge) rfl (decide_eq_false c1) (by decide) ?_
      refine sd_b_go 1 (pc2 := 108) (lv2 := [(0, .inr (.inr (some (331)))), (1, .inl (v1)), (2, .inl (v2)), (3, .inl (v3)), (4, .inl (v4))]) (st2 := [.inl (v2)]) rfl ?_
      by_cases c2 : v2 ≤ 0
      · rw [if_pos c2] at h
        refine sd_b_zt (c := .le) (tgt := 215) rfl (decide_eq_true c2) (by decide) ?_
        cases h
        exact sd_b_rt rfl rfl rfl
      · rw [if_neg c2] at h
        refine sd_b_zf (c := .le) rfl (decide_eq_false c2) (by decide) ?_
        refine sd_b_go 4 (pc2 := 116) (lv2 := [(5, .inl (0)), (0, .inr (.inr (some (331)))), (1, .inl (v1)), (2, .inl (v2)), (3, .inl (v3)), (4, .inl (v4))]) (st2 := [.inr (.inr (some (331))), .inl (v1)]) rfl ?_
        refine sd_b_gr (k := 23) sd_o_331 rfl rfl rfl ?_
        refine sd_b_go 1 (pc2 := 121) (lv2 := [(5, .inl (0)), (0, .inr (.inr (some (331)))), (1, .inl (v1)), (2, .inl (v2)), (3, .inl (v3)), (4, .inl (v4))]) (st2 := [.inl (v4), .inr (.inr (some (342))), .inl (v1)]) rfl ?_
        obtain ⟨g3, h⟩ := sd_if h
        refine sd_b_ai (sd_oa sd_o_331 (by decide) (off := 11) (List.mem_of_getElem? (i := 10) rfl)) g3 rfl ?_
        refine sd_b_go 2 (pc2 := 124) (lv2 := [(5, .inl (0)), (0, .inr (.inr (some (331)))), (1, .inl (v1)), (2, .inl (v2)), (3, .inl (v3)), (4, .inl (v4))]) (st2 := [.inl (v2), .inl (sd_w (v1 * (M 342 v4.toNat)))]) rfl ?_
        obtain ⟨g4, h⟩ := sd_if h
        refine sd_b_mz g4 rfl ?_
        refine sd_b_go 3 (pc2 := 130) (lv2 := [(7, .inl (0)), (6, .inl (Int.tmod (sd_w (v1 * (M 342 v4.toNat))) v2)), (5, .inl (0)), (0, .inr (.inr (some (331)))), (1, .inl (v1)), (2, .inl (v2)), (3, .inl (v3)), (4, .inl (v4))]) (st2 := []) rfl ?_
        refine sd_b_wk [(0, .inr (.inr (some (331)))), (1, .inl (v1)), (2, .inl (v2)), (3, .inl (v3)), (4, .inl (v4)), (5, .inl (0)), (6, .inl (Int.tmod (sd_w (v1 * (M 342 v4.toNat))) v2)), (7, .inl (0))] (List.forall_mem_cons.mpr ⟨rfl, (List.forall_mem_cons.mpr ⟨rfl, (List.forall_mem_cons.mpr ⟨rfl, (List.forall_mem_cons.mpr ⟨rfl, (List.forall_mem_cons.mpr ⟨rfl, (List.forall_mem_cons.mpr ⟨rfl, (List.forall_mem_cons.mpr ⟨rfl, (List.forall_mem_cons.mpr ⟨rfl, (fun _ h0 => absurd h0 List.not_mem_nil)⟩)⟩)⟩)⟩)⟩)⟩)⟩)⟩) ?_
        exact t_X10_parts_130 hd (f_X10_parts_192 (f_X10_parts_95 n)) (t_X10_parts_192 hd (f_X10_parts_95 n) ih) 4000 v1 v2 v3 v4 0 (Int.tmod (sd_w (v1 * (M 342 v4.toNat))) v2) 0 M _ h
def f_X10_parts_92 (v1 : Int) (v2 : Int) (v3 : Int) (M : sd_M) : Option (Int × sd_M) := f_X10_parts_95 4000 v1 v2 v3 0 M
set_option maxRecDepth 4000 in
theorem t_X10_parts_92 {X : Nat → List sd_V → List sd_E → sd_A → Prop} {d : Nat} (hd : 0 ≤ d) (v1 : Int) (v2 : Int) (v3 : Int) (M : sd_M) (Rr : Int × sd_M) (h : f_X10_parts_92 v1 v2 v3 M = some Rr) : sd_B X d sd_q_X10_parts 92 [(0, .inr (.inr (some (331)))), (1, .inl (v1)), (2, .inl (v2)), (3, .inl (v3))] [] M (none, sd_rp Rr.2, 0, 0) := by
  unfold f_X10_parts_92 at h
  refine sd_b_go 2 (pc2 := 95) (lv2 := [(4, .inl (0)), (0, .inr (.inr (some (331)))), (1, .inl (v1)), (2, .inl (v2)), (3, .inl (v3))]) (st2 := []) rfl ?_
  refine sd_b_wk [(0, .inr (.inr (some (331)))), (1, .inl (v1)), (2, .inl (v2)), (3, .inl (v3)), (4, .inl (0))] (List.forall_mem_cons.mpr ⟨rfl, (List.forall_mem_cons.mpr ⟨rfl, (List.forall_mem_cons.mpr ⟨rfl, (List.forall_mem_cons.mpr ⟨rfl, (List.forall_mem_cons.mpr ⟨rfl, (fun _ h0 => absurd h0 List.not_mem_nil)⟩)⟩)⟩)⟩)⟩) ?_
  exact t_X10_parts_95 hd 4000 v1 v2 v3 0 M _ h
def f_X10_parts_35 (v1 : Int) (v2 : Int) (v3 : Int) (M : sd_M) : Option (Int × sd_M) := f_X10_parts_38 (f_X10_parts_92) 4000 v1 v2 v3 0 M
set_option maxRecDepth 4000 in
theorem t_X10_parts_35 {X : Nat → List sd_V → List sd_E → sd_A → Prop} {d : Nat} (hd : 0 ≤ d) (v1 : Int) (v2 : Int) (v3 : Int) (M : sd_M) (Rr : Int × sd_M) (h : f_X10_parts_35 v1 v2 v3 M = some Rr) : sd_B X d sd_q_X10_parts 35 [(0, .inr (.inr (some (331)))), (1, .inl (v1)), (2, .inl (v2)), (3, .inl (v3))] [] M (none, sd_rp Rr.2, 0, 0) := by
  unfold f_X10_parts_35 at h
  refine sd_b_go 2 (pc2 := 38) (lv2 := [(4, .inl (0)), (0, .inr (.inr (some (331)))), (1, .inl (v1)), (2, .inl (v2)), (3, .inl (v3))]) (st2 := []) rfl ?_
  refine sd_b_wk [(0, .inr (.inr (some (331)))), (1, .inl (v1)), (2, .inl (v2)), (3, .inl (v3)), (4, .inl (0))] (List.forall_mem_cons.mpr ⟨rfl, (List.forall_mem_cons.mpr ⟨rfl, (List.forall_mem_cons.mpr ⟨rfl, (List.forall_mem_cons.mpr ⟨rfl, (List.forall_mem_cons.mpr ⟨rfl, (fun _ h0 => absurd h0 List.not_mem_nil)⟩)⟩)⟩)⟩)⟩) ?_
  exact t_X10_parts_38 hd (f_X10_parts_92) (t_X10_parts_92 hd) 4000 v1 v2 v3 0 M _ h
def f_X10_parts (p1 : Int) (M : sd_M) : Option (Int × sd_M) := f_X10_parts_7 (f_X10_parts_35) 4000 p1 0 p1 0 M
set_option maxRecDepth 4000 in
theorem t_X10_parts {X : Nat → List sd_V → List sd_E → sd_A → Prop} {d : Nat} (hd : 0 ≤ d) (p1 : Int) (M : sd_M) (Rr : Int × sd_M) (h : f_X10_parts p1 M = some Rr) : sd_B X d sd_q_X10_parts 0 [(0, .inr (.inr (some (331)))), (1, .inl (p1))] [] M (none, sd_rp Rr.2, 0, 0) := by
  unfold f_X10_parts at h
  refine sd_b_go 6 (pc2 := 7) (lv2 := [(4, .inl (0)), (3, .inl (p1)), (2, .inl (0)), (0, .inr (.inr (some (331)))), (1, .inl (p1))]) (st2 := []) rfl ?_
  refine sd_b_wk [(0, .inr (.inr (some (331)))), (1, .inl (p1)), (2, .inl (0)), (3, .inl (p1)), (4, .inl (0))] (List.forall_mem_cons.mpr ⟨rfl, (List.forall_mem_cons.mpr ⟨rfl, (List.forall_mem_cons.mpr ⟨rfl, (List.forall_mem_cons.mpr ⟨rfl, (List.forall_mem_cons.mpr ⟨rfl, (fun _ h0 => absurd h0 List.not_mem_nil)⟩)⟩)⟩)⟩)⟩) ?_
  exact t_X10_parts_7 hd (f_X10_parts_35) (t_X10_parts_35 hd) 4000 p1 0 p1 0 M _ h
theorem m_X10_parts {X : Nat → List sd_V → List sd_E → sd_A → Prop} {d : Nat} (hd : 1 ≤ d) {p1 : Int} {M : sd_M} {Rr : Int × sd_M} (h : f_X10_parts p1 M = some Rr) : sd_Cal X d 181 [.inr (.inr (some (331))), .inl (p1)] (sd_rp M) (none, sd_rp Rr.2, 0, 0) := by
  obtain ⟨d, rfl⟩ : ∃ d2, d = d2 + 1 := ⟨d - 1, by omega⟩
  exact sd_cal_of sd_i_X10_parts (Nat.le_of_ble_eq_true rfl) (t_X10_parts (by omega) p1 M Rr h)
-- X10_signs
def sd_q_X10_signs : sd_MI := (yX10_signs, cX10_signs, 6, none, 10, 0, sd_t_X10_signs)
set_option maxRecDepth 4000 in
theorem sd_i_X10_signs : sd_mL[182]? = some sd_q_X10_signs := rfl
def f_X10_signs_118 (k12 : Int → Int → Int → sd_M → Option (Int × sd_M)) (k143 : Int → Int → sd_M → Option (Int × sd_M)) (v1 : Int) (v2 : Int) (v3 : Int) (s0 : Int) (s1 : Int) (M : sd_M) : Option (Int × sd_M) := if 0 ≤ s1 ∧ s1 < 9 then (if 0 ≤ v3 ∧ v3 < 9 then (if 0 ≤ v3 ∧ v3 < 9 then (k12 (sd_w (v1 - ((sd_s M 342 s1.toNat s0) 344 v3.toNat))) (sd_w (v2 + ((sd_s M 342 s1.toNat s0) 342 v3.toNat))) (sd_w (v3 + 1)) (sd_s M 342 s1.toNat s0)) else none) else none) else none
set_option maxRecDepth 4000 in
theorem t_X10_signs_118 {X : Nat → List sd_V → List sd_E → sd_A → Prop} {d : Nat} (hd : 1 ≤ d) (k12 : Int → Int → Int → sd_M → Option (Int × sd_M)) (k143 : Int → Int → sd_M → Option (Int × sd_M)) (hk12 : ∀ (v1 : Int) (v2 : Int) (v3 : Int) (M : sd_M) (Rr : Int × sd_M), k12 v1 v2 v3 M = some Rr → sd_B X d sd_q_X10_signs 12 [(0, .inr (.inr (some (331)))), (1, .inl (v1)), (2, .inl (v2)), (3, .inl (v3))] [] M (none, sd_rp Rr.2, 0, 0)) (hk143 : ∀ (v1 : Int) (v2 : Int) (M : sd_M) (Rr : Int × sd_M), k143 v1 v2 M = some Rr → sd_B X d sd_q_X10_signs 143 [(0, .inr (.inr (some (331)))), (1, .inl (v1)), (2, .inl (v2))] [] M (none, sd_rp Rr.2, 0, 0)) (v1 : Int) (v2 : Int) (v3 : Int) (s0 : Int) (s1 : Int) (M : sd_M) (Rr : Int × sd_M) (h : f_X10_signs_118 k12 k143 v1 v2 v3 s0 s1 M = some Rr) : sd_B X d sd_q_X10_signs 118 [(0, .inr (.inr (some (331)))), (1, .inl (v1)), (2, .inl (v2)), (3, .inl (v3))] [.inl (s0), .inl (s1), .inr (.inr (some (342)))] M (none, sd_rp Rr.2, 0, 0) := by
  unfold f_X10_signs_118 at h
  obtain ⟨g1, h⟩ := sd_if h
  refine sd_b_si (sd_oa sd_o_331 (by decide) (off := 11) (List.mem_of_getElem? (i := 10) rfl)) g1 rfl ?_
  refine sd_b_go 2 (pc2 := 121) (lv2 := [(0, .inr (.inr (some (331)))), (1, .inl (v1)), (2, .inl (v2)), (3, .inl (v3))]) (st2 := [.inr (.inr (some (331))), .inl (v1)]) rfl ?_
  refine sd_b_gr (k := 25) sd_o_331 rfl rfl rfl ?_
  refine sd_b_go 1 (pc2 := 125) (lv2 := [(0, .inr (.inr (some (331)))), (1, .inl (v1)), (2, .inl (v2)), (3, .inl (v3))]) (st2 := [.inl (v3), .inr (.inr (some (344))), .inl (v1)]) rfl ?_
  obtain ⟨g2, h⟩ := sd_if h
  refine sd_b_ai (sd_oa sd_o_331 (by decide) (off := 13) (List.mem_of_getElem? (i := 12) rfl)) g2 rfl ?_
  refine sd_b_go 4 (pc2 := 130) (lv2 := [(1, .inl (sd_w (v1 - ((sd_s M 342 s1.toNat s0) 344 v3.toNat)))), (0, .inr (.inr (some (331)))), (2, .inl (v2)), (3, .inl (v3))]) (st2 := [.inr (.inr (some (331))), .inl (v2)]) rfl ?_
  refine sd_b_gr (k := 23) sd_o_331 rfl rfl rfl ?_
  refine sd_b_go 1 (pc2 := 134) (lv2 := [(1, .inl (sd_w (v1 - ((sd_s M 342 s1.toNat s0) 344 v3.toNat)))), (0, .inr (.inr (some (331)))), (2, .inl (v2)), (3, .inl (v3))]) (st2 := [.inl (v3), .inr (.inr (some (342))), .inl (v2)]) rfl ?_
  obtain ⟨g3, h⟩ := sd_if h
  refine sd_b_ai (sd_oa sd_o_331 (by decide) (off := 11) (List.mem_of_getElem? (i := 10) rfl)) g3 rfl ?_
  refine sd_b_go 4 (pc2 := 12) (lv2 := [(3, .inl (sd_w (v3 + 1))), (2, .inl (sd_w (v2 + ((sd_s M 342 s1.toNat s0) 342 v3.toNat)))), (1, .inl (sd_w (v1 - ((sd_s M 342 s1.toNat s0) 344 v3.toNat)))), (0, .inr (.inr (some (331))))]) (st2 := []) rfl ?_
  refine sd_b_wk [(0, .inr (.inr (some (331)))), (1, .inl (sd_w (v1 - ((sd_s M 342 s1.toNat s0) 344 v3.toNat)))), (2, .inl (sd_w (v2 + ((sd_s M 342 s1.toNat s0) 342 v3.toNat)))), (3, .inl (sd_w (v3 + 1)))] (List.forall_mem_cons.mpr ⟨rfl, (List.forall_mem_cons.mpr ⟨rfl, (List.forall_mem_cons.mpr ⟨rfl, (List.forall_mem_cons.mpr ⟨rfl, (fun _ h0 => absurd h0 List.not_mem_nil)⟩)⟩)⟩)⟩) ?_
  exact hk12 (sd_w (v1 - ((sd_s M 342 s1.toNat s0) 344 v3.toNat))) (sd_w (v2 + ((sd_s M 342 s1.toNat s0) 342 v3.toNat))) (sd_w (v3 + 1)) (sd_s M 342 s1.toNat s0) _ h
def f_X10_signs_93 (k12 : Int → Int → Int → sd_M → Option (Int × sd_M)) (k143 : Int → Int → sd_M → Option (Int × sd_M)) (v1 : Int) (v2 : Int) (v3 : Int) (v4 : Int) (v5 : Int) (s0 : Int) (s1 : Int) (M : sd_M) : Option (Int × sd_M) := if 0 ≤ s1 ∧ s1 < 9 then (if v5 = 0 then (if 0 ≤ (sd_w (62 + v4)) ∧ (sd_w (62 + v4)) < 128 then (f_X10_signs_118 k12 k143 v1 v2 v3 ((sd_s M 344 s1.toNat s0) 341 (sd_w (62 + v4)).toNat) v3 (sd_s M 344 s1.toNat s0)) else none) else (f_X10_signs_118 k12 k143 v1 v2 v3 0 v3 (sd_s M 344 s1.toNat s0))) else none
set_option maxRecDepth 4000 in
theorem t_X10_signs_93 {X : Nat → List sd_V → List sd_E → sd_A → Prop} {d : Nat} (hd : 1 ≤ d) (k12 : Int → Int → Int → sd_M → Option (Int × sd_M)) (k143 : Int → Int → sd_M → Option (Int × sd_M)) (hk12 : ∀ (v1 : Int) (v2 : Int) (v3 : Int) (M : sd_M) (Rr : Int × sd_M), k12 v1 v2 v3 M = some Rr → sd_B X d sd_q_X10_signs 12 [(0, .inr (.inr (some (331)))), (1, .inl (v1)), (2, .inl (v2)), (3, .inl (v3))] [] M (none, sd_rp Rr.2, 0, 0)) (hk143 : ∀ (v1 : Int) (v2 : Int) (M : sd_M) (Rr : Int × sd_M), k143 v1 v2 M = some Rr → sd_B X d sd_q_X10_signs 143 [(0, .inr (.inr (some (331)))), (1, .inl (v1)), (2, .inl (v2))] [] M (none, sd_rp Rr.2, 0, 0)) (v1 : Int) (v2 : Int) (v3 : Int) (v4 : Int) (v5 : Int) (s0 : Int) (s1 : Int) (M : sd_M) (Rr : Int × sd_M) (h : f_X10_signs_93 k12 k143 v1 v2 v3 v4 v5 s0 s1 M = some Rr) : sd_B X d sd_q_X10_signs 93 [(0, .inr (.inr (some (331)))), (1, .inl (v1)), (2, .inl (v2)), (3, .inl (v3)), (4, .inl (v4)), (5, .inl (v5))] [.inl (s0), .inl (s1), .inr (.inr (some (344)))] M (none, sd_rp Rr.2, 0, 0) := by
  unfold f_X10_signs_93 at h
  obtain ⟨g1, h⟩ := sd_if h
  refine sd_b_si (sd_oa sd_o_331 (by decide) (off := 13) (List.mem_of_getElem? (i := 12) rfl)) g1 rfl ?_
  refine sd_b_go 1 (pc2 := 95) (lv2 := [(0, .inr (.inr (some (331)))), (1, .inl (v1)), (2, .inl (v2)), (3, .inl (v3)), (4, .inl (v4)), (5, .inl (v5))]) (st2 := [.inr (.inr (some (331)))]) rfl ?_
  refine sd_b_gr (k := 23) sd_o_331 rfl rfl rfl ?_
  refine sd_b_go 2 (pc2 := 101) (lv2 := [(0, .inr (.inr (some (331)))), (1, .inl (v1)), (2, .inl (v2)), (3, .inl (v3)), (4, .inl (v4)), (5, .inl (v5))]) (st2 := [.inl (v5), .inl (v3), .inr (.inr (some (342)))]) rfl ?_
  by_cases c2 : v5 = 0
  · rw [if_pos c2] at h
    refine sd_b_zt (c := .eq) (tgt := 108) rfl (decide_eq_true c2) (by decide) ?_
    refine sd_b_go 1 (pc2 := 109) (lv2 := [(0, .inr (.inr (some (331)))), (1, .inl (v1)), (2, .inl (v2)), (3, .inl (v3)), (4, .inl (v4)), (5, .inl (v5))]) (st2 := [.inr (.inr (some (331))), .inl (v3), .inr (.inr (some (342)))]) rfl ?_
    refine sd_b_gr (k := 20) sd_o_331 rfl rfl rfl ?_
    refine sd_b_go 3 (pc2 := 117) (lv2 := [(0, .inr (.inr (some (331)))), (1, .inl (v1)), (2, .inl (v2)), (3, .inl (v3)), (4, .inl (v4)), (5, .inl (v5))]) (st2 := [.inl (sd_w (62 + v4)), .inr (.inr (some (341))), .inl (v3), .inr (.inr (some (342)))]) rfl ?_
    obtain ⟨g3, h⟩ := sd_if h
    refine sd_b_ai (sd_oa sd_o_331 (by decide) (off := 10) (List.mem_of_getElem? (i := 9) rfl)) g3 rfl ?_
    refine sd_b_wk [(0, .inr (.inr (some (331)))), (1, .inl (v1)), (2, .inl (v2)), (3, .inl (v3))] (List.forall_mem_cons.mpr ⟨rfl, (List.forall_mem_cons.mpr ⟨rfl, (List.forall_mem_cons.mpr ⟨rfl, (List.forall_mem_cons.mpr ⟨rfl, (fun _ h0 => absurd h0 List.not_mem_nil)⟩)⟩)⟩)⟩) ?_
    exact t_X10_signs_118 hd k12 k143 hk12 hk143 v1 v2 v3 ((sd_s M 344 s1.toNat s0) 341 (sd_w (62 + v4)).toNat) v3 (sd_s M 344 s1.toNat s0) _ h
  · rw [if_neg c2] at h
    refine sd_b_zf (c := .eq) rfl (decide_eq_false c2) (by decide) ?_
    refine sd_b_go 2 (pc2 := 118) (lv2 := [(0, .inr (.inr (some (331)))), (1, .inl (v1)), (2, .inl (v2)), (3, .inl (v3)), (4, .inl (v4)), (5, .inl (v5))]) (st2 := [.inl (0), .inl (v3), .inr (.inr (some (342)))]) rfl ?_
    refine sd_b_wk [(0, .inr (.inr (some (331)))), (1, .inl (v1)), (2, .inl (v2)), (3, .inl (v3))] (List.forall_mem_cons.mpr ⟨rfl, (List.forall_mem_cons.mpr ⟨rfl, (List.forall_mem_cons.mpr ⟨rfl, (List.forall_mem_cons.mpr ⟨rfl, (fun _ h0 => absurd h0 List.not_mem_nil)⟩)⟩)⟩)⟩) ?_
    exact t_X10_signs_118 hd k12 k143 hk12 hk143 v1 v2 v3 0 v3 (sd_s M 344 s1.toNat s0) _ h
def f_X10_signs_67 (k12 : Int → Int → Int → sd_M → Option (Int × sd_M)) (k143 : Int → Int → sd_M → Option (Int × sd_M)) (v1 : Int) (v2 : Int) (v3 : Int) (v4 : Int) (s0 : Int) (M : sd_M) : Option (Int × sd_M) := if s0 = 0 then (f_X10_signs_93 k12 k143 v1 v2 v3 v4 s0 0 v3 M) else (if 0 ≤ (sd_w (62 + v4)) ∧ (sd_w (62 + v4)) < 128 then (f_X10_signs_93 k12 k143 v1 v2 v3 v4 s0 (M 341 (sd_w (62 + v4)).toNat) v3 M) else none)
set_option maxRecDepth 4000 in
theorem t_X10_signs_67 {X : Nat → List sd_V → List sd_E → sd_A → Prop} {d : Nat} (hd : 1 ≤ d) (k12 : Int → Int → Int → sd_M → Option (Int × sd_M)) (k143 : Int → Int → sd_M → Option (Int × sd_M)) (hk12 : ∀ (v1 : Int) (v2 : Int) (v3 : Int) (M : sd_M) (Rr : Int × sd_M), k12 v1 v2 v3 M = some Rr → sd_B X d sd_q_X10_signs 12 [(0, .inr (.inr (some (331)))), (1, .inl (v1)), (2, .inl (v2)), (3, .inl (v3))] [] M (none, sd_rp Rr.2, 0, 0)) (hk143 : ∀ (v1 : Int) (v2 : Int) (M : sd_M) (Rr : Int × sd_M), k143 v1 v2 M = some Rr → sd_B X d sd_q_X10_signs 143 [(0, .inr (.inr (some (331)))), (1, .inl (v1)), (2, .inl (v2))] [] M (none, sd_rp Rr.2, 0, 0)) (v1 : Int) (v2 : Int) (v3 : Int) (v4 : Int) (s0 : Int) (M : sd_M) (Rr : Int × sd_M) (h : f_X10_signs_67 k12 k143 v1 v2 v3 v4 s0 M = some Rr) : sd_B X d sd_q_X10_signs 67 [(0, .inr (.inr (some (331)))), (1, .inl (v1)), (2, .inl (v2)), (3, .inl (v3)), (4, .inl (v4))] [.inl (s0)] M (none, sd_rp Rr.2, 0, 0) := by
  unfold f_X10_signs_67 at h
  refine sd_b_go 2 (pc2 := 70) (lv2 := [(5, .inl (s0)), (0, .inr (.inr (some (331)))), (1, .inl (v1)), (2, .inl (v2)), (3, .inl (v3)), (4, .inl (v4))]) (st2 := [.inr (.inr (some (331)))]) rfl ?_
  refine sd_b_gr (k := 25) sd_o_331 rfl rfl rfl ?_
  refine sd_b_go 2 (pc2 := 76) (lv2 := [(5, .inl (s0)), (0, .inr (.inr (some (331)))), (1, .inl (v1)), (2, .inl (v2)), (3, .inl (v3)), (4, .inl (v4))]) (st2 := [.inl (s0), .inl (v3), .inr (.inr (some (344)))]) rfl ?_
  by_cases c1 : s0 = 0
  · rw [if_pos c1] at h
    refine sd_b_zt (c := .eq) (tgt := 92) rfl (decide_eq_true c1) (by decide) ?_
    refine sd_b_go 1 (pc2 := 93) (lv2 := [(5, .inl (s0)), (0, .inr (.inr (some (331)))), (1, .inl (v1)), (2, .inl (v2)), (3, .inl (v3)), (4, .inl (v4))]) (st2 := [.inl (0), .inl (v3), .inr (.inr (some (344)))]) rfl ?_
    refine sd_b_wk [(0, .inr (.inr (some (331)))), (1, .inl (v1)), (2, .inl (v2)), (3, .inl (v3)), (4, .inl (v4)), (5, .inl (s0))] (List.forall_mem_cons.mpr ⟨rfl, (List.forall_mem_cons.mpr ⟨rfl, (List.forall_mem_cons.mpr ⟨rfl, (List.forall_mem_cons.mpr ⟨rfl, (List.forall_mem_cons.mpr ⟨rfl, (List.forall_mem_cons.mpr ⟨rfl, (fun _ h0 => absurd h0 List.not_mem_nil)⟩)⟩)⟩)⟩)⟩)⟩) ?_
    exact t_X10_signs_93 hd k12 k143 hk12 hk143 v1 v2 v3 v4 s0 0 v3 M _ h
  · rw [if_neg c1] at h
    refine sd_b_zf (c := .eq) rfl (decide_eq_false c1) (by decide) ?_
    refine sd_b_go 1 (pc2 := 80) (lv2 := [(5, .inl (s0)), (0, .inr (.inr (some (331)))), (1, .inl (v1)), (2, .inl (v2)), (3, .inl (v3)), (4, .inl (v4))]) (st2 := [.inr (.inr (some (331))), .inl (v3), .inr (.inr (some (344)))]) rfl ?_
    refine sd_b_gr (k := 20) sd_o_331 rfl rfl rfl ?_
    refine sd_b_go 3 (pc2 := 88) (lv2 := [(5, .inl (s0)), (0, .inr (.inr (some (331)))), (1, .inl (v1)), (2, .inl (v2)), (3, .inl (v3)), (4, .inl (v4))]) (st2 := [.inl (sd_w (62 + v4)), .inr (.inr (some (341))), .inl (v3), .inr (.inr (some (344)))]) rfl ?_
    obtain ⟨g2, h⟩ := sd_if h
    refine sd_b_ai (sd_oa sd_o_331 (by decide) (off := 10) (List.mem_of_getElem? (i := 9) rfl)) g2 rfl ?_
    refine sd_b_go 1 (pc2 := 93) (lv2 := [(5, .inl (s0)), (0, .inr (.inr (some (331)))), (1, .inl (v1)), (2, .inl (v2)), (3, .inl (v3)), (4, .inl (v4))]) (st2 := [.inl (M 341 (sd_w (62 + v4)).toNat), .inl (v3), .inr (.inr (some (344)))]) rfl ?_
    refine sd_b_wk [(0, .inr (.inr (some (331)))), (1, .inl (v1)), (2, .inl (v2)), (3, .inl (v3)), (4, .inl (v4)), (5, .inl (s0))] (List.forall_mem_cons.mpr ⟨rfl, (List.forall_mem_cons.mpr ⟨rfl, (List.forall_mem_cons.mpr ⟨rfl, (List.forall_mem_cons.mpr ⟨rfl, (List.forall_mem_cons.mpr ⟨rfl, (List.forall_mem_cons.mpr ⟨rfl, (fun _ h0 => absurd h0 List.not_mem_nil)⟩)⟩)⟩)⟩)⟩)⟩) ?_
    exact t_X10_signs_93 hd k12 k143 hk12 hk143 v1 v2 v3 v4 s0 (M 341 (sd_w (62 + v4)).toNat) v3 M _ h
def f_X10_signs_66 (k12 : Int → Int → Int → sd_M → Option (Int × sd_M)) (k143 : Int → Int → sd_M → Option (Int × sd_M)) (v1 : Int) (v2 : Int) (v3 : Int) (v4 : Int) (M : sd_M) : Option (Int × sd_M) := f_X10_signs_67 k12 k143 v1 v2 v3 v4 0 M
set_option maxRecDepth 4000 in
theorem t_X10_signs_66 {X : Nat → List sd_V → List sd_E → sd_A → Prop} {d : Nat} (hd : 1 ≤ d) (k12 : Int → Int → Int → sd_M → Option (Int × sd_M)) (k143 : Int → Int → sd_M → Option (Int × sd_M)) (hk12 : ∀ (v1 : Int) (v2 : Int) (v3 : Int) (M : sd_M) (Rr : Int × sd_M), k12 v1 v2 v3 M = some Rr → sd_B X d sd_q_X10_signs 12 [(0, .inr (.inr (some (331)))), (1, .inl (v1)), (2, .inl (v2)), (3, .inl (v3))] [] M (none, sd_rp Rr.2, 0, 0)) (hk143 : ∀ (v1 : Int) (v2 : Int) (M : sd_M) (Rr : Int × sd_M), k143 v1 v2 M = some Rr → sd_B X d sd_q_X10_signs 143 [(0, .inr (.inr (some (331)))), (1, .inl (v1)), (2, .inl (v2))] [] M (none, sd_rp Rr.2, 0, 0)) (v1 : Int) (v2 : Int) (v3 : Int) (v4 : Int) (M : sd_M) (Rr : Int × sd_M) (h : f_X10_signs_66 k12 k143 v1 v2 v3 v4 M = some Rr) : sd_B X d sd_q_X10_signs 66 [(0, .inr (.inr (some (331)))), (1, .inl (v1)), (2, .inl (v2)), (3, .inl (v3)), (4, .inl (v4))] [] M (none, sd_rp Rr.2, 0, 0) := by
  unfold f_X10_signs_66 at h
  refine sd_b_go 1 (pc2 := 67) (lv2 := [(0, .inr (.inr (some (331)))), (1, .inl (v1)), (2, .inl (v2)), (3, .inl (v3)), (4, .inl (v4))]) (st2 := [.inl (0)]) rfl ?_
  refine sd_b_wk [(0, .inr (.inr (some (331)))), (1, .inl (v1)), (2, .inl (v2)), (3, .inl (v3)), (4, .inl (v4))] (List.forall_mem_cons.mpr ⟨rfl, (List.forall_mem_cons.mpr ⟨rfl, (List.forall_mem_cons.mpr ⟨rfl, (List.forall_mem_cons.mpr ⟨rfl, (List.forall_mem_cons.mpr ⟨rfl, (fun _ h0 => absurd h0 List.not_mem_nil)⟩)⟩)⟩)⟩)⟩) ?_
  exact t_X10_signs_67 hd k12 k143 hk12 hk143 v1 v2 v3 v4 0 M _ h
def f_X10_signs_12 (k143 : Int → Int → sd_M → Option (Int × sd_M)) : Nat → Int → Int → Int → sd_M → Option (Int × sd_M)
  | 0, _, _, _, _ => none
  | n + 1, v1, v2, v3, M => if (M 341 60) ≤ v3 then (k143 v1 v2 M) else (if 0 ≤ (sd_w (89 + v3)) ∧ (sd_w (89 + v3)) < 128 then (if 0 ≤ (sd_w (13 + (M 341 (sd_w (89 + v3)).toNat))) ∧ (sd_w (13 + (M 341 (sd_w (89 + v3)).toNat))) < 128 then (if (M 341 (sd_w (13 + (M 341 (sd_w (89 + v3)).toNat))).toNat) = 1 then (if 0 ≤ (sd_w (62 + (M 341 (sd_w (89 + v3)).toNat))) ∧ (sd_w (62 + (M 341 (sd_w (89 + v3)).toNat))) < 128 then (if v1 < (M 341 (sd_w (62 + (M 341 (sd_w (89 + v3)).toNat))).toNat) then (f_X10_signs_66 (f_X10_signs_12 k143 n) k143 v1 v2 v3 (M 341 (sd_w (89 + v3)).toNat) M) else (f_X10_signs_67 (f_X10_signs_12 k143 n) k143 v1 v2 v3 (M 341 (sd_w (89 + v3)).toNat) 1 M)) else none) else (f_X10_signs_66 (f_X10_signs_12 k143 n) k143 v1 v2 v3 (M 341 (sd_w (89 + v3)).toNat) M)) else none) else none)
set_option maxRecDepth 4000 in
theorem t_X10_signs_12 {X : Nat → List sd_V → List sd_E → sd_A → Prop} {d : Nat} (hd : 1 ≤ d) (k143 : Int → Int → sd_M → Option (Int × sd_M)) (hk143 : ∀ (v1 : Int) (v2 : Int) (M : sd_M) (Rr : Int × sd_M), k143 v1 v2 M = some Rr → sd_B X d sd_q_X10_signs 143 [(0, .inr (.inr (some (331)))), (1, .inl (v1)), (2, .inl (v2))] [] M (none, sd_rp Rr.2, 0, 0)) : ∀ (n : Nat) (v1 : Int) (v2 : Int) (v3 : Int) (M : sd_M) (Rr : Int × sd_M), f_X10_signs_12 k143 n v1 v2 v3 M = some Rr → sd_B X d sd_q_X10_signs 12 [(0, .inr (.inr (some (331)))), (1, .inl (v1)), (2, .inl (v2)), (3, .inl (v3))] [] M (none, sd_rp Rr.2, 0, 0) := by
  intro n
  induction n with
  | zero => intro v1 v2 v3 M Rr h; cases h
  | succ n ih =>
    intro v1 v2 v3 M Rr h
    rw [f_X10_signs_12] at h
    refine sd_b_go 2 (pc2 := 14) (lv2 := [(0, .inr (.inr (some (331)))), (1, .inl (v1)), (2, .inl (v2)), (3, .inl (v3))]) (st2 := [.inr (.inr (some (331))), .inl (v3)]) rfl ?_
    refine sd_b_gr (k := 20) sd_o_331 rfl rfl rfl ?_
    refine sd_b_go 1 (pc2 := 19) (lv2 := [(0, .inr (.inr (some (331)))), (1, .inl (v1)), (2, .inl (v2)), (3, .inl (v3))]) (st2 := [.inl (60), .inr (.inr (some (341))), .inl (v3)]) rfl ?_
    refine sd_b_ai (i := 60) (sd_oa sd_o_331 (by decide) (off := 10) (List.mem_of_getElem? (i := 9) rfl)) (by decide) rfl ?_
    by_cases c1 : (M 341 60) ≤ v3
    · rw [if_pos c1] at h
      refine sd_b_ct (c := .ge) (tgt := 143) rfl (decide_eq_true c1) (by decide) ?_
      refine sd_b_wk [(0, .inr (.inr (some (331)))), (1, .inl (v1)), (2, .inl (v2))] (List.forall_mem_cons.mpr ⟨rfl, (List.forall_mem_cons.mpr ⟨rfl, (List.forall_mem_cons.mpr ⟨rfl, (fun _ h0 => absurd h0 List.not_mem_nil)⟩)⟩)⟩) ?_
      exact hk143 v1 v2 M _ h
    · rw [if_neg c1] at h
      refine sd_b_cf (c := .ge) rfl (decide_eq_false c1) (by decide) ?_
      refine sd_b_go 1 (pc2 := 24) (lv2 := [(0, .inr (.inr (some (331)))), (1, .inl (v1)), (2, .inl (v2)), (3, .inl (v3))]) (st2 := [.inr (.inr (some (331)))]) rfl ?_
      refine sd_b_gr (k := 20) sd_o_331 rfl rfl rfl ?_
      refine sd_b_go 3 (pc2 := 31) (lv2 := [(0, .inr (.inr (some (331)))), (1, .inl (v1)), (2, .inl (v2)), (3, .inl (v3))]) (st2 := [.inl (sd_w (89 + v3)), .inr (.inr (some (341)))]) rfl ?_
      obtain ⟨g2, h⟩ := sd_if h
      refine sd_b_ai (sd_oa sd_o_331 (by decide) (off := 10) (List.mem_of_getElem? (i := 9) rfl)) g2 rfl ?_
      refine sd_b_go 2 (pc2 := 35) (lv2 := [(4, .inl (M 341 (sd_w (89 + v3)).toNat)), (0, .inr (.inr (some (331)))), (1, .inl (v1)), (2, .inl (v2)), (3, .inl (v3))]) (st2 := [.inr (.inr (some (331)))]) rfl ?_
      refine sd_b_gr (k := 20) sd_o_331 rfl rfl rfl ?_
      refine sd_b_go 3 (pc2 := 43) (lv2 := [(4, .inl (M 341 (sd_w (89 + v3)).toNat)), (0, .inr (.inr (some (331)))), (1, .inl (v1)), (2, .inl (v2)), (3, .inl (v3))]) (st2 := [.inl (sd_w (13 + (M 341 (sd_w (89 + v3)).toNat))), .inr (.inr (some (341)))]) rfl ?_
      obtain ⟨g3, h⟩ := sd_if h
      refine sd_b_ai (sd_oa sd_o_331 (by decide) (off := 10) (List.mem_of_getElem? (i := 9) rfl)) g3 rfl ?_
      refine sd_b_go 1 (pc2 := 45) (lv2 := [(4, .inl (M 341 (sd_w (89 + v3)).toNat)), (0, .inr (.inr (some (331)))), (1, .inl (v1)), (2, .inl (v2)), (3, .inl (v3))]) (st2 := [.inl (1), .inl (M 341 (sd_w (13 + (M 341 (sd_w (89 + v3)).toNat))).toNat)]) rfl ?_
      by_cases c4 : (M 341 (sd_w (13 + (M 341 (sd_w (89 + v3)).toNat))).toNat) = 1
      · rw [if_pos c4] at h
        refine sd_b_cf (c := .ne) rfl (decide_eq_false (not_not_intro c4)) (by decide) ?_
        refine sd_b_go 1 (pc2 := 49) (lv2 := [(4, .inl (M 341 (sd_w (89 + v3)).toNat)), (0, .inr (.inr (some (331)))), (1, .inl (v1)), (2, .inl (v2)), (3, .inl (v3))]) (st2 := [.inr (.inr (some (331)))]) rfl ?_
        refine sd_b_gr (k := 20) sd_o_331 rfl rfl rfl ?_
        refine sd_b_go 3 (pc2 := 57) (lv2 := [(4, .inl (M 341 (sd_w (89 + v3)).toNat)), (0, .inr (.inr (some (331)))), (1, .inl (v1)), (2, .inl (v2)), (3, .inl (v3))]) (st2 := [.inl (sd_w (62 + (M 341 (sd_w (89 + v3)).toNat))), .inr (.inr (some (341)))]) rfl ?_
        obtain ⟨g5, h⟩ := sd_if h
        refine sd_b_ai (sd_oa sd_o_331 (by decide) (off := 10) (List.mem_of_getElem? (i := 9) rfl)) g5 rfl ?_
        refine sd_b_go 1 (pc2 := 59) (lv2 := [(4, .inl (M 341 (sd_w (89 + v3)).toNat)), (0, .inr (.inr (some (331)))), (1, .inl (v1)), (2, .inl (v2)), (3, .inl (v3))]) (st2 := [.inl (v1), .inl (M 341 (sd_w (62 + (M 341 (sd_w (89 + v3)).toNat))).toNat)]) rfl ?_
        by_cases c6 : v1 < (M 341 (sd_w (62 + (M 341 (sd_w (89 + v3)).toNat))).toNat)
        · rw [if_pos c6] at h
          refine sd_b_ct (c := .gt) (tgt := 66) rfl (decide_eq_true c6) (by decide) ?_
          refine sd_b_wk [(0, .inr (.inr (some (331)))), (1, .inl (v1)), (2, .inl (v2)), (3, .inl (v3)), (4, .inl (M 341 (sd_w (89 + v3)).toNat))] (List.forall_mem_cons.mpr ⟨rfl, (List.forall_mem_cons.mpr ⟨rfl, (List.forall_mem_cons.mpr ⟨rfl, (List.forall_mem_cons.mpr ⟨rfl, (List.forall_mem_cons.mpr ⟨rfl, (fun _ h0 => absurd h0 List.not_mem_nil)⟩)⟩)⟩)⟩)⟩) ?_
          exact t_X10_signs_66 hd (f_X10_signs_12 k143 n) k143 ih hk143 v1 v2 v3 (M 341 (sd_w (89 + v3)).toNat) M _ h
        · rw [if_neg c6] at h
          refine sd_b_cf (c := .gt) rfl (decide_eq_false c6) (by decide) ?_
          refine sd_b_go 2 (pc2 := 67) (lv2 := [(4, .inl (M 341 (sd_w (89 + v3)).toNat)), (0, .inr (.inr (some (331)))), (1, .inl (v1)), (2, .inl (v2)), (3, .inl (v3))]) (st2 := [.inl (1)]) rfl ?_
          refine sd_b_wk [(0, .inr (.inr (some (331)))), (1, .inl (v1)), (2, .inl (v2)), (3, .inl (v3)), (4, .inl (M 341 (sd_w (89 + v3)).toNat))] (List.forall_mem_cons.mpr ⟨rfl, (List.forall_mem_cons.mpr ⟨rfl, (List.forall_mem_cons.mpr ⟨rfl, (List.forall_mem_cons.mpr ⟨rfl, (List.forall_mem_cons.mpr ⟨rfl, (fun _ h0 => absurd h0 List.not_mem_nil)⟩)⟩)⟩)⟩)⟩) ?_
          exact t_X10_signs_67 hd (f_X10_signs_12 k143 n) k143 ih hk143 v1 v2 v3 (M 341 (sd_w (89 + v3)).toNat) 1 M _ h
      · rw [if_neg c4] at h
        refine sd_b_ct (c := .ne) (tgt := 66) rfl (decide_eq_true c4) (by decide) ?_
        refine sd_b_wk [(0, .inr (.inr (some (331)))), (1, .inl (v1)), (2, .inl (v2)), (3, .inl (v3)), (4, .inl (M 341 (sd_w (89 + v3)).toNat))] (List.forall_mem_cons.mpr ⟨rfl, (List.forall_mem_cons.mpr ⟨rfl, (List.forall_mem_cons.mpr ⟨rfl, (List.forall_mem_cons.mpr ⟨rfl, (List.forall_mem_cons.mpr ⟨rfl, (fun _ h0 => absurd h0 List.not_mem_nil)⟩)⟩)⟩)⟩)⟩) ?_
        exact t_X10_signs_66 hd (f_X10_signs_12 k143 n) k143 ih hk143 v1 v2 v3 (M 341 (sd_w (89 + v3)).toNat) M _ h
def f_X10_signs_201 (k155 : Int → Int → Int → sd_M → Option (Int × sd_M)) (v1 : Int) (v2 : Int) (v3 : Int) (M : sd_M) : Option (Int × sd_M) := k155 v1 v2 (sd_w (v3 + 1)) M
set_option maxRecDepth 4000 in
theorem t_X10_signs_201 {X : Nat → List sd_V → List sd_E → sd_A → Prop} {d : Nat} (hd : 1 ≤ d) (k155 : Int → Int → Int → sd_M → Option (Int × sd_M)) (hk155 : ∀ (v1 : Int) (v2 : Int) (v3 : Int) (M : sd_M) (Rr : Int × sd_M), k155 v1 v2 v3 M = some Rr → sd_B X d sd_q_X10_signs 155 [(0, .inr (.inr (some (331)))), (1, .inl (v1)), (2, .inl (v2)), (3, .inl (v3))] [] M (none, sd_rp Rr.2, 0, 0)) (v1 : Int) (v2 : Int) (v3 : Int) (M : sd_M) (Rr : Int × sd_M) (h : f_X10_signs_201 k155 v1 v2 v3 M = some Rr) : sd_B X d sd_q_X10_signs 201 [(0, .inr (.inr (some (331)))), (1, .inl (v1)), (2, .inl (v2)), (3, .inl (v3))] [] M (none, sd_rp Rr.2, 0, 0) := by
  unfold f_X10_signs_201 at h
  refine sd_b_go 2 (pc2 := 155) (lv2 := [(3, .inl (sd_w (v3 + 1))), (0, .inr (.inr (some (331)))), (1, .inl (v1)), (2, .inl (v2))]) (st2 := []) rfl ?_
  refine sd_b_wk [(0, .inr (.inr (some (331)))), (1, .inl (v1)), (2, .inl (v2)), (3, .inl (sd_w (v3 + 1)))] (List.forall_mem_cons.mpr ⟨rfl, (List.forall_mem_cons.mpr ⟨rfl, (List.forall_mem_cons.mpr ⟨rfl, (List.forall_mem_cons.mpr ⟨rfl, (fun _ h0 => absurd h0 List.not_mem_nil)⟩)⟩)⟩)⟩) ?_
  exact hk155 v1 v2 (sd_w (v3 + 1)) M _ h
def f_X10_signs_200 (k155 : Int → Int → Int → sd_M → Option (Int × sd_M)) (v1 : Int) (v2 : Int) (v3 : Int) (s0 : Int) (s1 : Int) (M : sd_M) : Option (Int × sd_M) := if 0 ≤ s1 ∧ s1 < 9 then (f_X10_signs_201 k155 v1 v2 v3 (sd_s M 344 s1.toNat s0)) else none
set_option maxRecDepth 4000 in
theorem t_X10_signs_200 {X : Nat → List sd_V → List sd_E → sd_A → Prop} {d : Nat} (hd : 1 ≤ d) (k155 : Int → Int → Int → sd_M → Option (Int × sd_M)) (hk155 : ∀ (v1 : Int) (v2 : Int) (v3 : Int) (M : sd_M) (Rr : Int × sd_M), k155 v1 v2 v3 M = some Rr → sd_B X d sd_q_X10_signs 155 [(0, .inr (.inr (some (331)))), (1, .inl (v1)), (2, .inl (v2)), (3, .inl (v3))] [] M (none, sd_rp Rr.2, 0, 0)) (v1 : Int) (v2 : Int) (v3 : Int) (s0 : Int) (s1 : Int) (M : sd_M) (Rr : Int × sd_M) (h : f_X10_signs_200 k155 v1 v2 v3 s0 s1 M = some Rr) : sd_B X d sd_q_X10_signs 200 [(0, .inr (.inr (some (331)))), (1, .inl (v1)), (2, .inl (v2)), (3, .inl (v3))] [.inl (s0), .inl (s1), .inr (.inr (some (344)))] M (none, sd_rp Rr.2, 0, 0) := by
  unfold f_X10_signs_200 at h
  obtain ⟨g1, h⟩ := sd_if h
  refine sd_b_si (sd_oa sd_o_331 (by decide) (off := 13) (List.mem_of_getElem? (i := 12) rfl)) g1 rfl ?_
  refine sd_b_wk [(0, .inr (.inr (some (331)))), (1, .inl (v1)), (2, .inl (v2)), (3, .inl (v3))] (List.forall_mem_cons.mpr ⟨rfl, (List.forall_mem_cons.mpr ⟨rfl, (List.forall_mem_cons.mpr ⟨rfl, (List.forall_mem_cons.mpr ⟨rfl, (fun _ h0 => absurd h0 List.not_mem_nil)⟩)⟩)⟩)⟩) ?_
  exact t_X10_signs_201 hd k155 hk155 v1 v2 v3 (sd_s M 344 s1.toNat s0) _ h
def f_X10_signs_155 : Nat → Int → Int → Int → sd_M → Option (Int × sd_M)
  | 0, _, _, _, _ => none
  | n + 1, v1, v2, v3, M => if (M 341 60) ≤ v3 then (some (0, M)) else (if 0 ≤ v3 ∧ v3 < 9 then (if (M 342 v3.toNat) ≤ 0 then (f_X10_signs_201 (f_X10_signs_155 n) v1 v2 v3 M) else (if v2 ≤ v1 then (if 0 ≤ v3 ∧ v3 < 9 then (f_X10_signs_200 (f_X10_signs_155 n) v1 v2 v3 (M 342 v3.toNat) v3 M) else none) else (if 0 ≤ v3 ∧ v3 < 9 then (f_X10_signs_200 (f_X10_signs_155 n) v1 v2 v3 (M 343 v3.toNat) v3 M) else none))) else none)
set_option maxRecDepth 4000 in
theorem t_X10_signs_155 {X : Nat → List sd_V → List sd_E → sd_A → Prop} {d : Nat} (hd : 1 ≤ d) : ∀ (n : Nat) (v1 : Int) (v2 : Int) (v3 : Int) (M : sd_M) (Rr : Int × sd_M), f_X10_signs_155 n v1 v2 v3 M = some Rr → sd_B X d sd_q_X10_signs 155 [(0, .inr (.inr (some (331)))), (1, .inl (v1)), (2, .inl (v2)), (3, .inl (v3))] [] M (none, sd_rp Rr.2, 0, 0) := by
  intro n
  induction n with
  | zero => intro v1 v2 v3 M Rr h; cases h
  | succ n ih =>
    intro v1 v2 v3 M Rr h
    rw [f_X10_signs_155] at h
    refine sd_b_go 2 (pc2 := 157) (lv2 := [(0, .inr (.inr (some (331)))), (1, .inl (v1)), (2, .inl (v2)), (3, .inl (v3))]) (st2 := [.inr (.inr (some (331))), .inl (v3)]) rfl ?_
    refine sd_b_gr (k := 20) sd_o_331 rfl rfl rfl ?_
    refine sd_b_go 1 (pc2 := 162) (lv2 := [(0, .inr (.inr (some (331)))), (1, .inl (v1)), (2, .inl (v2)), (3, .inl (v3))]) (st2 := [.inl (60), .inr (.inr (some (341))), .inl (v3)]) rfl ?_
    refine sd_b_ai (i := 60) (sd_oa sd_o_331 (by decide) (off := 10) (List.mem_of_getElem? (i := 9) rfl)) (by decide) rfl ?_
    by_cases c1 : (M 341 60) ≤ v3
    · rw [if_pos c1] at h
      refine sd_b_ct (c := .ge) (tgt := 207) rfl (decide_eq_true c1) (by decide) ?_
      cases h
      exact sd_b_rt rfl rfl rfl
    · rw [if_neg c1] at h
      refine sd_b_cf (c := .ge) rfl (decide_eq_false c1) (by decide) ?_
      refine sd_b_go 1 (pc2 := 167) (lv2 := [(0, .inr (.inr (some (331)))), (1, .inl (v1)), (2, .inl (v2)), (3, .inl (v3))]) (st2 := [.inr (.inr (some (331)))]) rfl ?_
      refine sd_b_gr (k := 23) sd_o_331 rfl rfl rfl ?_
      refine sd_b_go 1 (pc2 := 171) (lv2 := [(0, .inr (.inr (some (331)))), (1, .inl (v1)), (2, .inl (v2)), (3, .inl (v3))]) (st2 := [.inl (v3), .inr (.inr (some (342)))]) rfl ?_
      obtain ⟨g2, h⟩ := sd_if h
      refine sd_b_ai (sd_oa sd_o_331 (by decide) (off := 11) (List.mem_of_getElem? (i := 10) rfl)) g2 rfl ?_
      by_cases c3 : (M 342 v3.toNat) ≤ 0
      · rw [if_pos c3] at h
        refine sd_b_zt (c := .le) (tgt := 201) rfl (decide_eq_true c3) (by decide) ?_
        refine sd_b_wk [(0, .inr (.inr (some (331)))), (1, .inl (v1)), (2, .inl (v2)), (3, .inl (v3))] (List.forall_mem_cons.mpr ⟨rfl, (List.forall_mem_cons.mpr ⟨rfl, (List.forall_mem_cons.mpr ⟨rfl, (List.forall_mem_cons.mpr ⟨rfl, (fun _ h0 => absurd h0 List.not_mem_nil)⟩)⟩)⟩)⟩) ?_
        exact t_X10_signs_201 hd (f_X10_signs_155 n) ih v1 v2 v3 M _ h
      · rw [if_neg c3] at h
        refine sd_b_zf (c := .le) rfl (decide_eq_false c3) (by decide) ?_
        refine sd_b_go 1 (pc2 := 176) (lv2 := [(0, .inr (.inr (some (331)))), (1, .inl (v1)), (2, .inl (v2)), (3, .inl (v3))]) (st2 := [.inr (.inr (some (331)))]) rfl ?_
        refine sd_b_gr (k := 25) sd_o_331 rfl rfl rfl ?_
        refine sd_b_go 3 (pc2 := 182) (lv2 := [(0, .inr (.inr (some (331)))), (1, .inl (v1)), (2, .inl (v2)), (3, .inl (v3))]) (st2 := [.inl (v1), .inl (v2), .inl (v3), .inr (.inr (some (344)))]) rfl ?_
        by_cases c4 : v2 ≤ v1
        · rw [if_pos c4] at h
          refine sd_b_ct (c := .le) (tgt := 194) rfl (decide_eq_true c4) (by decide) ?_
          refine sd_b_go 1 (pc2 := 195) (lv2 := [(0, .inr (.inr (some (331)))), (1, .inl (v1)), (2, .inl (v2)), (3, .inl (v3))]) (st2 := [.inr (.inr (some (331))), .inl (v3), .inr (.inr (some (344)))]) rfl ?_
          refine sd_b_gr (k := 23) sd_o_331 rfl rfl rfl ?_
          refine sd_b_go 1 (pc2 := 199) (lv2 := [(0, .inr (.inr (some (331)))), (1, .inl (v1)), (2, .inl (v2)), (3, .inl (v3))]) (st2 := [.inl (v3), .inr (.inr (some (342))), .inl (v3), .inr (.inr (some (344)))]) rfl ?_
          obtain ⟨g5, h⟩ := sd_if h
          refine sd_b_ai (sd_oa sd_o_331 (by decide) (off := 11) (List.mem_of_getElem? (i := 10) rfl)) g5 rfl ?_
          refine sd_b_wk [(0, .inr (.inr (some (331)))), (1, .inl (v1)), (2, .inl (v2)), (3, .inl (v3))] (List.forall_mem_cons.mpr ⟨rfl, (List.forall_mem_cons.mpr ⟨rfl, (List.forall_mem_cons.mpr ⟨rfl, (List.forall_mem_cons.mpr ⟨rfl, (fun _ h0 => absurd h0 List.not_mem_nil)⟩)⟩)⟩)⟩) ?_
          exact t_X10_signs_200 hd (f_X10_signs_155 n) ih v1 v2 v3 (M 342 v3.toNat) v3 M _ h
        · rw [if_neg c4] at h
          refine sd_b_cf (c := .le) rfl (decide_eq_false c4) (by decide) ?_
          refine sd_b_go 1 (pc2 := 186) (lv2 := [(0, .inr (.inr (some (331)))), (1, .inl (v1)), (2, .inl (v2)), (3, .inl (v3))]) (st2 := [.inr (.inr (some (331))), .inl (v3), .inr (.inr (some (344)))]) rfl ?_
          refine sd_b_gr (k := 24) sd_o_331 rfl rfl rfl ?_
          refine sd_b_go 1 (pc2 := 190) (lv2 := [(0, .inr (.inr (some (331)))), (1, .inl (v1)), (2, .inl (v2)), (3, .inl (v3))]) (st2 := [.inl (v3), .inr (.inr (some (343))), .inl (v3), .inr (.inr (some (344)))]) rfl ?_
          obtain ⟨g6, h⟩ := sd_if h
          refine sd_b_ai (sd_oa sd_o_331 (by decide) (off := 12) (List.mem_of_getElem? (i := 11) rfl)) g6 rfl ?_
          refine sd_b_go 1 (pc2 := 200) (lv2 := [(0, .inr (.inr (some (331)))), (1, .inl (v1)), (2, .inl (v2)), (3, .inl (v3))]) (st2 := [.inl (M 343 v3.toNat), .inl (v3), .inr (.inr (some (344)))]) rfl ?_
          refine sd_b_wk [(0, .inr (.inr (some (331)))), (1, .inl (v1)), (2, .inl (v2)), (3, .inl (v3))] (List.forall_mem_cons.mpr ⟨rfl, (List.forall_mem_cons.mpr ⟨rfl, (List.forall_mem_cons.mpr ⟨rfl, (List.forall_mem_cons.mpr ⟨rfl, (fun _ h0 => absurd h0 List.not_mem_nil)⟩)⟩)⟩)⟩) ?_
          exact t_X10_signs_200 hd (f_X10_signs_155 n) ih v1 v2 v3 (M 343 v3.toNat) v3 M _ h
def f_X10_signs_153 (v1 : Int) (v2 : Int) (M : sd_M) : Option (Int × sd_M) := f_X10_signs_155 4000 v1 v2 0 M
set_option maxRecDepth 4000 in
theorem t_X10_signs_153 {X : Nat → List sd_V → List sd_E → sd_A → Prop} {d : Nat} (hd : 1 ≤ d) (v1 : Int) (v2 : Int) (M : sd_M) (Rr : Int × sd_M) (h : f_X10_signs_153 v1 v2 M = some Rr) : sd_B X d sd_q_X10_signs 153 [(0, .inr (.inr (some (331)))), (1, .inl (v1)), (2, .inl (v2))] [] M (none, sd_rp Rr.2, 0, 0) := by
  unfold f_X10_signs_153 at h
  refine sd_b_go 2 (pc2 := 155) (lv2 := [(3, .inl (0)), (0, .inr (.inr (some (331)))), (1, .inl (v1)), (2, .inl (v2))]) (st2 := []) rfl ?_
  refine sd_b_wk [(0, .inr (.inr (some (331)))), (1, .inl (v1)), (2, .inl (v2)), (3, .inl (0))] (List.forall_mem_cons.mpr ⟨rfl, (List.forall_mem_cons.mpr ⟨rfl, (List.forall_mem_cons.mpr ⟨rfl, (List.forall_mem_cons.mpr ⟨rfl, (fun _ h0 => absurd h0 List.not_mem_nil)⟩)⟩)⟩)⟩) ?_
  exact t_X10_signs_155 hd 4000 v1 v2 0 M _ h
def f_X10_signs_143 (v1 : Int) (v2 : Int) (M : sd_M) : Option (Int × sd_M) := if v2 ≤ v1 then (f_X10_signs_153 v1 v2 M) else ((f_X10_parts v1 M).bind fun r2 => f_X10_signs_153 v1 v2 r2.2)
set_option maxRecDepth 4000 in
theorem t_X10_signs_143 {X : Nat → List sd_V → List sd_E → sd_A → Prop} {d : Nat} (hd : 1 ≤ d) (v1 : Int) (v2 : Int) (M : sd_M) (Rr : Int × sd_M) (h : f_X10_signs_143 v1 v2 M = some Rr) : sd_B X d sd_q_X10_signs 143 [(0, .inr (.inr (some (331)))), (1, .inl (v1)), (2, .inl (v2))] [] M (none, sd_rp Rr.2, 0, 0) := by
  unfold f_X10_signs_143 at h
  refine sd_b_go 2 (pc2 := 145) (lv2 := [(0, .inr (.inr (some (331)))), (1, .inl (v1)), (2, .inl (v2))]) (st2 := [.inl (v1), .inl (v2)]) rfl ?_
  by_cases c1 : v2 ≤ v1
  · rw [if_pos c1] at h
    refine sd_b_ct (c := .le) (tgt := 153) rfl (decide_eq_true c1) (by decide) ?_
    refine sd_b_wk [(0, .inr (.inr (some (331)))), (1, .inl (v1)), (2, .inl (v2))] (List.forall_mem_cons.mpr ⟨rfl, (List.forall_mem_cons.mpr ⟨rfl, (List.forall_mem_cons.mpr ⟨rfl, (fun _ h0 => absurd h0 List.not_mem_nil)⟩)⟩)⟩) ?_
    exact t_X10_signs_153 hd v1 v2 M _ h
  · rw [if_neg c1] at h
    refine sd_b_cf (c := .le) rfl (decide_eq_false c1) (by decide) ?_
    refine sd_b_go 2 (pc2 := 150) (lv2 := [(0, .inr (.inr (some (331)))), (1, .inl (v1)), (2, .inl (v2))]) (st2 := [.inl (v1), .inr (.inr (some (331)))]) rfl ?_
    obtain ⟨r2, e2, h⟩ := sd_bnd h
    refine sd_b_call [.inr (.inr (some (331))), .inl (v1)] [] rfl rfl sd_i_X10_parts rfl rfl (Nat.le_of_ble_eq_true rfl) (sd_rc_v sd_o_331) (m_X10_parts (by omega) e2) ?_
    refine sd_b_wk [(0, .inr (.inr (some (331)))), (1, .inl (v1)), (2, .inl (v2))] (List.forall_mem_cons.mpr ⟨rfl, (List.forall_mem_cons.mpr ⟨rfl, (List.forall_mem_cons.mpr ⟨rfl, (fun _ h0 => absurd h0 List.not_mem_nil)⟩)⟩)⟩) ?_
    exact t_X10_signs_153 hd v1 v2 r2.2 _ h
def f_X10_signs (M : sd_M) : Option (Int × sd_M) := f_X10_signs_12 (f_X10_signs_143) 4000 (M 341 59) 0 0 M
set_option maxRecDepth 4000 in
theorem t_X10_signs {X : Nat → List sd_V → List sd_E → sd_A → Prop} {d : Nat} (hd : 1 ≤ d) (M : sd_M) (Rr : Int × sd_M) (h : f_X10_signs M = some Rr) : sd_B X d sd_q_X10_signs 0 [(0, .inr (.inr (some (331))))] [] M (none, sd_rp Rr.2, 0, 0) := by
  unfold f_X10_signs at h
  refine sd_b_go 1 (pc2 := 1) (lv2 := [(0, .inr (.inr (some (331))))]) (st2 := [.inr (.inr (some (331)))]) rfl ?_
  refine sd_b_gr (k := 20) sd_o_331 rfl rfl rfl ?_
  refine sd_b_go 1 (pc2 := 6) (lv2 := [(0, .inr (.inr (some (331))))]) (st2 := [.inl (59), .inr (.inr (some (341)))]) rfl ?_
  refine sd_b_ai (i := 59) (sd_oa sd_o_331 (by decide) (off := 10) (List.mem_of_getElem? (i := 9) rfl)) (by decide) rfl ?_
  refine sd_b_go 5 (pc2 := 12) (lv2 := [(3, .inl (0)), (2, .inl (0)), (1, .inl (M 341 59)), (0, .inr (.inr (some (331))))]) (st2 := []) rfl ?_
  refine sd_b_wk [(0, .inr (.inr (some (331)))), (1, .inl (M 341 59)), (2, .inl (0)), (3, .inl (0))] (List.forall_mem_cons.mpr ⟨rfl, (List.forall_mem_cons.mpr ⟨rfl, (List.forall_mem_cons.mpr ⟨rfl, (List.forall_mem_cons.mpr ⟨rfl, (fun _ h0 => absurd h0 List.not_mem_nil)⟩)⟩)⟩)⟩) ?_
  exact t_X10_signs_12 hd (f_X10_signs_143) (t_X10_signs_143 hd) 4000 (M 341 59) 0 0 M _ h
theorem m_X10_signs {X : Nat → List sd_V → List sd_E → sd_A → Prop} {d : Nat} (hd : 2 ≤ d) {M : sd_M} {Rr : Int × sd_M} (h : f_X10_signs M = some Rr) : sd_Cal X d 182 [.inr (.inr (some (331)))] (sd_rp M) (none, sd_rp Rr.2, 0, 0) := by
  obtain ⟨d, rfl⟩ : ∃ d2, d = d2 + 1 := ⟨d - 1, by omega⟩
  exact sd_cal_of sd_i_X10_signs (Nat.le_of_ble_eq_true rfl) (t_X10_signs (by omega) M Rr h)
-- X10_placeOf
def sd_q_X10_placeOf : sd_MI := (yX10_placeOf, cX10_placeOf, 3, (some .int), 10, 1, sd_t_X10_placeOf)
set_option maxRecDepth 4000 in
theorem sd_i_X10_placeOf : sd_mL[183]? = some sd_q_X10_placeOf := rfl
def f_X10_placeOf_2 : Nat → Int → Int → sd_M → Option (Int × sd_M)
  | 0, _, _, _ => none
  | n + 1, v1, v2, M => if 0 ≤ (sd_w (89 + v2)) ∧ (sd_w (89 + v2)) < 128 then (if (M 341 (sd_w (89 + v2)).toNat) = v1 then (some (v2, M)) else (f_X10_placeOf_2 n v1 (sd_w (v2 + 1)) M)) else none
set_option maxRecDepth 4000 in
theorem t_X10_placeOf_2 {X : Nat → List sd_V → List sd_E → sd_A → Prop} {d : Nat} (hd : 0 ≤ d) : ∀ (n : Nat) (v1 : Int) (v2 : Int) (M : sd_M) (Rr : Int × sd_M), f_X10_placeOf_2 n v1 v2 M = some Rr → sd_B X d sd_q_X10_placeOf 2 [(0, .inr (.inr (some (331)))), (1, .inl (v1)), (2, .inl (v2))] [] M (some (.inl Rr.1), sd_rp Rr.2, 0, 0) := by
  intro n
  induction n with
  | zero => intro v1 v2 M Rr h; cases h
  | succ n ih =>
    intro v1 v2 M Rr h
    rw [f_X10_placeOf_2] at h
    refine sd_b_go 1 (pc2 := 3) (lv2 := [(0, .inr (.inr (some (331)))), (1, .inl (v1)), (2, .inl (v2))]) (st2 := [.inr (.inr (some (331)))]) rfl ?_
    refine sd_b_gr (k := 20) sd_o_331 rfl rfl rfl ?_
    refine sd_b_go 3 (pc2 := 10) (lv2 := [(0, .inr (.inr (some (331)))), (1, .inl (v1)), (2, .inl (v2))]) (st2 := [.inl (sd_w (89 + v2)), .inr (.inr (some (341)))]) rfl ?_
    obtain ⟨g1, h⟩ := sd_if h
    refine sd_b_ai (sd_oa sd_o_331 (by decide) (off := 10) (List.mem_of_getElem? (i := 9) rfl)) g1 rfl ?_
    refine sd_b_go 1 (pc2 := 12) (lv2 := [(0, .inr (.inr (some (331)))), (1, .inl (v1)), (2, .inl (v2))]) (st2 := [.inl (v1), .inl (M 341 (sd_w (89 + v2)).toNat)]) rfl ?_
    by_cases c2 : (M 341 (sd_w (89 + v2)).toNat) = v1
    · rw [if_pos c2] at h
      refine sd_b_ct (c := .eq) (tgt := 21) rfl (decide_eq_true c2) (by decide) ?_
      refine sd_b_go 1 (pc2 := 22) (lv2 := [(0, .inr (.inr (some (331)))), (1, .inl (v1)), (2, .inl (v2))]) (st2 := [.inl (v2)]) rfl ?_
      cases h
      exact sd_b_rt rfl rfl rfl
    · rw [if_neg c2] at h
      refine sd_b_cf (c := .eq) rfl (decide_eq_false c2) (by decide) ?_
      refine sd_b_go 2 (pc2 := 2) (lv2 := [(2, .inl (sd_w (v2 + 1))), (0, .inr (.inr (some (331)))), (1, .inl (v1))]) (st2 := []) rfl ?_
      refine sd_b_wk [(0, .inr (.inr (some (331)))), (1, .inl (v1)), (2, .inl (sd_w (v2 + 1)))] (List.forall_mem_cons.mpr ⟨rfl, (List.forall_mem_cons.mpr ⟨rfl, (List.forall_mem_cons.mpr ⟨rfl, (fun _ h0 => absurd h0 List.not_mem_nil)⟩)⟩)⟩) ?_
      exact ih v1 (sd_w (v2 + 1)) M _ h
def f_X10_placeOf (p1 : Int) (M : sd_M) : Option (Int × sd_M) := f_X10_placeOf_2 4000 p1 0 M
set_option maxRecDepth 4000 in
theorem t_X10_placeOf {X : Nat → List sd_V → List sd_E → sd_A → Prop} {d : Nat} (hd : 0 ≤ d) (p1 : Int) (M : sd_M) (Rr : Int × sd_M) (h : f_X10_placeOf p1 M = some Rr) : sd_B X d sd_q_X10_placeOf 0 [(0, .inr (.inr (some (331)))), (1, .inl (p1))] [] M (some (.inl Rr.1), sd_rp Rr.2, 0, 0) := by
  unfold f_X10_placeOf at h
  refine sd_b_go 2 (pc2 := 2) (lv2 := [(2, .inl (0)), (0, .inr (.inr (some (331)))), (1, .inl (p1))]) (st2 := []) rfl ?_
  refine sd_b_wk [(0, .inr (.inr (some (331)))), (1, .inl (p1)), (2, .inl (0))] (List.forall_mem_cons.mpr ⟨rfl, (List.forall_mem_cons.mpr ⟨rfl, (List.forall_mem_cons.mpr ⟨rfl, (fun _ h0 => absurd h0 List.not_mem_nil)⟩)⟩)⟩) ?_
  exact t_X10_placeOf_2 hd 4000 p1 0 M _ h
theorem m_X10_placeOf {X : Nat → List sd_V → List sd_E → sd_A → Prop} {d : Nat} (hd : 1 ≤ d) {p1 : Int} {M : sd_M} {Rr : Int × sd_M} (h : f_X10_placeOf p1 M = some Rr) : sd_Cal X d 183 [.inr (.inr (some (331))), .inl (p1)] (sd_rp M) (some (.inl Rr.1), sd_rp Rr.2, 0, 0) := by
  obtain ⟨d, rfl⟩ : ∃ d2, d = d2 + 1 := ⟨d - 1, by omega⟩
  exact sd_cal_of sd_i_X10_placeOf (Nat.le_of_ble_eq_true rfl) (t_X10_placeOf (by omega) p1 M Rr h)
-- X10_signedOf
def sd_q_X10_signedOf : sd_MI := (yX10_signedOf, cX10_signedOf, 2, (some .int), 10, 1, sd_t_X10_signedOf)
set_option maxRecDepth 4000 in
theorem sd_i_X10_signedOf : sd_mL[184]? = some sd_q_X10_signedOf := rfl
def f_X10_signedOf (p1 : Int) (M : sd_M) : Option (Int × sd_M) := (f_X10_isLine p1 M).bind fun r1 => if r1.1 = 0 then (some (0, r1.2)) else ((f_X10_signs r1.2).bind fun r3 => (f_X10_placeOf p1 r3.2).bind fun r4 => if 0 ≤ r4.1 ∧ r4.1 < 9 then (some ((r4.2) 344 r4.1.toNat, r4.2)) else none)
set_option maxRecDepth 4000 in
theorem t_X10_signedOf {X : Nat → List sd_V → List sd_E → sd_A → Prop} {d : Nat} (hd : 2 ≤ d) (p1 : Int) (M : sd_M) (Rr : Int × sd_M) (h : f_X10_signedOf p1 M = some Rr) : sd_B X d sd_q_X10_signedOf 0 [(0, .inr (.inr (some (331)))), (1, .inl (p1))] [] M (some (.inl Rr.1), sd_rp Rr.2, 0, 0) := by
  unfold f_X10_signedOf at h
  refine sd_b_go 2 (pc2 := 2) (lv2 := [(0, .inr (.inr (some (331)))), (1, .inl (p1))]) (st2 := [.inl (p1), .inr (.inr (some (331)))]) rfl ?_
  obtain ⟨r1, e1, h⟩ := sd_bnd h
  refine sd_b_call [.inr (.inr (some (331))), .inl (p1)] [] rfl rfl sd_i_X10_isLine rfl rfl (Nat.le_of_ble_eq_true rfl) (sd_rc_v sd_o_331) (m_X10_isLine (by omega) e1) ?_
  by_cases c2 : r1.1 = 0
  · rw [if_pos c2] at h
    refine sd_b_zf (c := .ne) rfl (decide_eq_false (not_not_intro c2)) (by decide) ?_
    refine sd_b_go 1 (pc2 := 9) (lv2 := [(0, .inr (.inr (some (331)))), (1, .inl (p1))]) (st2 := [.inl (0)]) rfl ?_
    cases h
    exact sd_b_rt rfl rfl rfl
  · rw [if_neg c2] at h
    refine sd_b_zt (c := .ne) (tgt := 10) rfl (decide_eq_true c2) (by decide) ?_
    refine sd_b_go 1 (pc2 := 11) (lv2 := [(0, .inr (.inr (some (331)))), (1, .inl (p1))]) (st2 := [.inr (.inr (some (331)))]) rfl ?_
    obtain ⟨r3, e3, h⟩ := sd_bnd h
    refine sd_b_call [.inr (.inr (some (331)))] [] rfl rfl sd_i_X10_signs rfl rfl (Nat.le_of_ble_eq_true rfl) (sd_rc_v sd_o_331) (m_X10_signs (by omega) e3) ?_
    refine sd_b_go 1 (pc2 := 15) (lv2 := [(0, .inr (.inr (some (331)))), (1, .inl (p1))]) (st2 := [.inr (.inr (some (331)))]) rfl ?_
    refine sd_b_gr (k := 25) sd_o_331 rfl rfl rfl ?_
    refine sd_b_go 2 (pc2 := 20) (lv2 := [(0, .inr (.inr (some (331)))), (1, .inl (p1))]) (st2 := [.inl (p1), .inr (.inr (some (331))), .inr (.inr (some (344)))]) rfl ?_
    obtain ⟨r4, e4, h⟩ := sd_bnd h
    refine sd_b_call [.inr (.inr (some (331))), .inl (p1)] [.inr (.inr (some (344)))] rfl rfl sd_i_X10_placeOf rfl rfl (Nat.le_of_ble_eq_true rfl) (sd_rc_v sd_o_331) (m_X10_placeOf (by omega) e4) ?_
    obtain ⟨g5, h⟩ := sd_if h
    refine sd_b_ai (sd_oa sd_o_331 (by decide) (off := 13) (List.mem_of_getElem? (i := 12) rfl)) g5 rfl ?_
    cases h
    exact sd_b_rt rfl rfl rfl
theorem m_X10_signedOf {X : Nat → List sd_V → List sd_E → sd_A → Prop} {d : Nat} (hd : 3 ≤ d) {p1 : Int} {M : sd_M} {Rr : Int × sd_M} (h : f_X10_signedOf p1 M = some Rr) : sd_Cal X d 184 [.inr (.inr (some (331))), .inl (p1)] (sd_rp M) (some (.inl Rr.1), sd_rp Rr.2, 0, 0) := by
  obtain ⟨d, rfl⟩ : ∃ d2, d = d2 + 1 := ⟨d - 1, by omega⟩
  exact sd_cal_of sd_i_X10_signedOf (Nat.le_of_ble_eq_true rfl) (t_X10_signedOf (by omega) p1 M Rr h)
-- X10_signedAll
def sd_q_X10_signedAll : sd_MI := (yX10_signedAll, cX10_signedAll, 3, (some .int), 10, 0, sd_t_X10_signedAll)
set_option maxRecDepth 4000 in
theorem sd_i_X10_signedAll : sd_mL[185]? = some sd_q_X10_signedAll := rfl
def f_X10_signedAll_8 : Nat → Int → Int → sd_M → Option (Int × sd_M)
  | 0, _, _, _ => none
  | n + 1, v1, v2, M => if (M 341 60) ≤ v2 then (some (v1, M)) else (if 0 ≤ v2 ∧ v2 < 9 then (f_X10_signedAll_8 n (sd_w (v1 + (M 344 v2.toNat))) (sd_w (v2 + 1)) M) else none)
set_option maxRecDepth 4000 in
theorem t_X10_signedAll_8 {X : Nat → List sd_V → List sd_E → sd_A → Prop} {d : Nat} (hd : 2 ≤ d) : ∀ (n : Nat) (v1 : Int) (v2 : Int) (M : sd_M) (Rr : Int × sd_M), f_X10_signedAll_8 n v1 v2 M = some Rr → sd_B X d sd_q_X10_signedAll 8 [(0, .inr (.inr (some (331)))), (1, .inl (v1)), (2, .inl (v2))] [] M (some (.inl Rr.1), sd_rp Rr.2, 0, 0) := by
  intro n
  induction n with
  | zero => intro v1 v2 M Rr h; cases h
  | succ n ih =>
    intro v1 v2 M Rr h
    rw [f_X10_signedAll_8] at h
    refine sd_b_go 2 (pc2 := 10) (lv2 := [(0, .inr (.inr (some (331)))), (1, .inl (v1)), (2, .inl (v2))]) (st2 := [.inr (.inr (some (331))), .inl (v2)]) rfl ?_
    refine sd_b_gr (k := 20) sd_o_331 rfl rfl rfl ?_
    refine sd_b_go 1 (pc2 := 15) (lv2 := [(0, .inr (.inr (some (331)))), (1, .inl (v1)), (2, .inl (v2))]) (st2 := [.inl (60), .inr (.inr (some (341))), .inl (v2)]) rfl ?_
    refine sd_b_ai (i := 60) (sd_oa sd_o_331 (by decide) (off := 10) (List.mem_of_getElem? (i := 9) rfl)) (by decide) rfl ?_
    by_cases c1 : (M 341 60) ≤ v2
    · rw [if_pos c1] at h
      refine sd_b_ct (c := .ge) (tgt := 34) rfl (decide_eq_true c1) (by decide) ?_
      refine sd_b_go 1 (pc2 := 35) (lv2 := [(0, .inr (.inr (some (331)))), (1, .inl (v1)), (2, .inl (v2))]) (st2 := [.inl (v1)]) rfl ?_
      cases h
      exact sd_b_rt rfl rfl rfl
    · rw [if_neg c1] at h
      refine sd_b_cf (c := .ge) rfl (decide_eq_false c1) (by decide) ?_
      refine sd_b_go 2 (pc2 := 21) (lv2 := [(0, .inr (.inr (some (331)))), (1, .inl (v1)), (2, .inl (v2))]) (st2 := [.inr (.inr (some (331))), .inl (v1)]) rfl ?_
      refine sd_b_gr (k := 25) sd_o_331 rfl rfl rfl ?_
      refine sd_b_go 1 (pc2 := 25) (lv2 := [(0, .inr (.inr (some (331)))), (1, .inl (v1)), (2, .inl (v2))]) (st2 := [.inl (v2), .inr (.inr (some (344))), .inl (v1)]) rfl ?_
      obtain ⟨g2, h⟩ := sd_if h
      refine sd_b_ai (sd_oa sd_o_331 (by decide) (off := 13) (List.mem_of_getElem? (i := 12) rfl)) g2 rfl ?_
      refine sd_b_go 4 (pc2 := 8) (lv2 := [(2, .inl (sd_w (v2 + 1))), (1, .inl (sd_w (v1 + (M 344 v2.toNat)))), (0, .inr (.inr (some (331))))]) (st2 := []) rfl ?_
      refine sd_b_wk [(0, .inr (.inr (some (331)))), (1, .inl (sd_w (v1 + (M 344 v2.toNat)))), (2, .inl (sd_w (v2 + 1)))] (List.forall_mem_cons.mpr ⟨rfl, (List.forall_mem_cons.mpr ⟨rfl, (List.forall_mem_cons.mpr ⟨rfl, (fun _ h0 => absurd h0 List.not_mem_nil)⟩)⟩)⟩) ?_
      exact ih (sd_w (v1 + (M 344 v2.toNat))) (sd_w (v2 + 1)) M _ h
def f_X10_signedAll (M : sd_M) : Option (Int × sd_M) := (f_X10_signs M).bind fun r1 => f_X10_signedAll_8 4000 0 0 r1.2
set_option maxRecDepth 4000 in
theorem t_X10_signedAll {X : Nat → List sd_V → List sd_E → sd_A → Prop} {d : Nat} (hd : 2 ≤ d) (M : sd_M) (Rr : Int × sd_M) (h : f_X10_signedAll M = some Rr) : sd_B X d sd_q_X10_signedAll 0 [(0, .inr (.inr (some (331))))] [] M (some (.inl Rr.1), sd_rp Rr.2, 0, 0) := by
  unfold f_X10_signedAll at h
  refine sd_b_go 1 (pc2 := 1) (lv2 := [(0, .inr (.inr (some (331))))]) (st2 := [.inr (.inr (some (331)))]) rfl ?_
  obtain ⟨r1, e1, h⟩ := sd_bnd h
  refine sd_b_call [.inr (.inr (some (331)))] [] rfl rfl sd_i_X10_signs rfl rfl (Nat.le_of_ble_eq_true rfl) (sd_rc_v sd_o_331) (m_X10_signs (by omega) e1) ?_
  refine sd_b_go 4 (pc2 := 8) (lv2 := [(2, .inl (0)), (1, .inl (0)), (0, .inr (.inr (some (331))))]) (st2 := []) rfl ?_
  refine sd_b_wk [(0, .inr (.inr (some (331)))), (1, .inl (0)), (2, .inl (0))] (List.forall_mem_cons.mpr ⟨rfl, (List.forall_mem_cons.mpr ⟨rfl, (List.forall_mem_cons.mpr ⟨rfl, (fun _ h0 => absurd h0 List.not_mem_nil)⟩)⟩)⟩) ?_
  exact t_X10_signedAll_8 hd 4000 0 0 r1.2 _ h
theorem m_X10_signedAll {X : Nat → List sd_V → List sd_E → sd_A → Prop} {d : Nat} (hd : 3 ≤ d) {M : sd_M} {Rr : Int × sd_M} (h : f_X10_signedAll M = some Rr) : sd_Cal X d 185 [.inr (.inr (some (331)))] (sd_rp M) (some (.inl Rr.1), sd_rp Rr.2, 0, 0) := by
  obtain ⟨d, rfl⟩ : ∃ d2, d = d2 + 1 := ⟨d - 1, by omega⟩
  exact sd_cal_of sd_i_X10_signedAll (Nat.le_of_ble_eq_true rfl) (t_X10_signedAll (by omega) M Rr h)
-- X10_holds
def sd_q_X10_holds : sd_MI := (yX10_holds, cX10_holds, 4, (some .boolean), 10, 1, sd_t_X10_holds)
set_option maxRecDepth 4000 in
theorem sd_i_X10_holds : sd_mL[186]? = some sd_q_X10_holds := rfl
def f_X10_holds (p1 : Int) (M : sd_M) : Option (Int × sd_M) := if 0 ≤ (sd_w (22 + (sd_w (3 * p1)))) ∧ (sd_w (22 + (sd_w (3 * p1)))) < 128 then (if 0 ≤ (sd_w ((sd_w (22 + (sd_w (3 * p1)))) + 2)) ∧ (sd_w ((sd_w (22 + (sd_w (3 * p1)))) + 2)) < 128 then (if 0 ≤ (sd_w ((sd_w (22 + (sd_w (3 * p1)))) + 1)) ∧ (sd_w ((sd_w (22 + (sd_w (3 * p1)))) + 1)) < 128 then (if (M 341 (sd_w ((sd_w (22 + (sd_w (3 * p1)))) + 1)).toNat) = 0 then ((f_X10_placed M).bind fun r5 => if r5.1 < (M 341 (sd_w ((sd_w (22 + (sd_w (3 * p1)))) + 2)).toNat) then (some (0, r5.2)) else (some (1, r5.2))) else (if (M 341 (sd_w ((sd_w (22 + (sd_w (3 * p1)))) + 1)).toNat) = 1 then ((f_X10_isLine (M 341 (sd_w ((sd_w (22 + (sd_w (3 * p1)))) + 2)).toNat) M).bind fun r8 => if r8.1 = 0 ∨ r8.1 = 1 then some (r8.1, r8.2) else none) else (if (M 341 (sd_w ((sd_w (22 + (sd_w (3 * p1)))) + 1)).toNat) = 2 then ((f_X10_signedOf (M 341 (sd_w (22 + (sd_w (3 * p1)))).toNat) M).bind fun r11 => if r11.1 < (M 341 (sd_w ((sd_w (22 + (sd_w (3 * p1)))) + 2)).toNat) then (some (0, r11.2)) else (some (1, r11.2))) else (if (M 341 (sd_w ((sd_w (22 + (sd_w (3 * p1)))) + 1)).toNat) = 3 then (if (M 341 (sd_w ((sd_w (22 + (sd_w (3 * p1)))) + 2)).toNat) < (M 341 60) then (some (0, M)) else (some (1, M))) else (if (M 341 (sd_w ((sd_w (22 + (sd_w (3 * p1)))) + 1)).toNat) = 4 then ((f_X10_shortNow M).bind fun r16 => if (M 341 (sd_w ((sd_w (22 + (sd_w (3 * p1)))) + 2)).toNat) < r16.1 then (some (0, r16.2)) else (some (1, r16.2))) else (if (M 341 (sd_w ((sd_w (22 + (sd_w (3 * p1)))) + 2)).toNat) < (M 341 58) then (some (0, M)) else (some (1, M)))))))) else none) else none) else none
set_option maxRecDepth 4000 in
theorem t_X10_holds {X : Nat → List sd_V → List sd_E → sd_A → Prop} {d : Nat} (hd : 3 ≤ d) (p1 : Int) (M : sd_M) (Rr : Int × sd_M) (h : f_X10_holds p1 M = some Rr) : sd_B X d sd_q_X10_holds 0 [(0, .inr (.inr (some (331)))), (1, .inl (p1))] [] M (some (.inl Rr.1), sd_rp Rr.2, 0, 0) := by
  unfold f_X10_holds at h
  refine sd_b_go 1 (pc2 := 1) (lv2 := [(0, .inr (.inr (some (331)))), (1, .inl (p1))]) (st2 := [.inr (.inr (some (331)))]) rfl ?_
  refine sd_b_gr (k := 20) sd_o_331 rfl rfl rfl ?_
  refine sd_b_go 5 (pc2 := 10) (lv2 := [(0, .inr (.inr (some (331)))), (1, .inl (p1))]) (st2 := [.inl (sd_w (22 + (sd_w (3 * p1)))), .inr (.inr (some (341)))]) rfl ?_
  obtain ⟨g1, h⟩ := sd_if h
  refine sd_b_ai (sd_oa sd_o_331 (by decide) (off := 10) (List.mem_of_getElem? (i := 9) rfl)) g1 rfl ?_
  refine sd_b_go 2 (pc2 := 13) (lv2 := [(2, .inl (M 341 (sd_w (22 + (sd_w (3 * p1)))).toNat)), (0, .inr (.inr (some (331)))), (1, .inl (p1))]) (st2 := [.inr (.inr (some (331)))]) rfl ?_
  refine sd_b_gr (k := 20) sd_o_331 rfl rfl rfl ?_
  refine sd_b_go 7 (pc2 := 24) (lv2 := [(2, .inl (M 341 (sd_w (22 + (sd_w (3 * p1)))).toNat)), (0, .inr (.inr (some (331)))), (1, .inl (p1))]) (st2 := [.inl (sd_w ((sd_w (22 + (sd_w (3 * p1)))) + 2)), .inr (.inr (some (341)))]) rfl ?_
  obtain ⟨g2, h⟩ := sd_if h
  refine sd_b_ai (sd_oa sd_o_331 (by decide) (off := 10) (List.mem_of_getElem? (i := 9) rfl)) g2 rfl ?_
  refine sd_b_go 2 (pc2 := 27) (lv2 := [(3, .inl (M 341 (sd_w ((sd_w (22 + (sd_w (3 * p1)))) + 2)).toNat)), (2, .inl (M 341 (sd_w (22 + (sd_w (3 * p1)))).toNat)), (0, .inr (.inr (some (331)))), (1, .inl (p1))]) (st2 := [.inr (.inr (some (331)))]) rfl ?_
  refine sd_b_gr (k := 20) sd_o_331 rfl rfl rfl ?_
  refine sd_b_go 7 (pc2 := 38) (lv2 := [(3, .inl (M 341 (sd_w ((sd_w (22 + (sd_w (3 * p1)))) + 2)).toNat)), (2, .inl (M 341 (sd_w (22 + (sd_w (3 * p1)))).toNat)), (0, .inr (.inr (some (331)))), (1, .inl (p1))]) (st2 := [.inl (sd_w ((sd_w (22 + (sd_w (3 * p1)))) + 1)), .inr (.inr (some (341)))]) rfl ?_
  obtain ⟨g3, h⟩ := sd_if h
  refine sd_b_ai (sd_oa sd_o_331 (by decide) (off := 10) (List.mem_of_getElem? (i := 9) rfl)) g3 rfl ?_
  by_cases c4 : (M 341 (sd_w ((sd_w (22 + (sd_w (3 * p1)))) + 1)).toNat) = 0
  · rw [if_pos c4] at h
    refine sd_b_eq c4 ?_
    refine sd_b_go 1 (pc2 := 72) (lv2 := [(3, .inl (M 341 (sd_w ((sd_w (22 + (sd_w (3 * p1)))) + 2)).toNat)), (2, .inl (M 341 (sd_w (22 + (sd_w (3 * p1)))).toNat)), (0, .inr (.inr (some (331)))), (1, .inl (p1))]) (st2 := []) rfl ?_
    refine sd_b_go 1 (pc2 := 73) (lv2 := [(3, .inl (M 341 (sd_w ((sd_w (22 + (sd_w (3 * p1)))) + 2)).toNat)), (2, .inl (M 341 (sd_w (22 + (sd_w (3 * p1)))).toNat)), (0, .inr (.inr (some (331)))), (1, .inl (p1))]) (st2 := [.inr (.inr (some (331)))]) rfl ?_
    obtain ⟨r5, e5, h⟩ := sd_bnd h
    refine sd_b_call [.inr (.inr (some (331)))] [] rfl rfl sd_i_X10_placed rfl rfl (Nat.le_of_ble_eq_true rfl) (sd_rc_v sd_o_331) (m_X10_placed (by omega) e5) ?_
    refine sd_b_go 1 (pc2 := 77) (lv2 := [(3, .inl (M 341 (sd_w ((sd_w (22 + (sd_w (3 * p1)))) + 2)).toNat)), (2, .inl (M 341 (sd_w (22 + (sd_w (3 * p1)))).toNat)), (0, .inr (.inr (some (331)))), (1, .inl (p1))]) (st2 := [.inl (M 341 (sd_w ((sd_w (22 + (sd_w (3 * p1)))) + 2)).toNat), .inl (r5.1)]) rfl ?_
    by_cases c6 : r5.1 < (M 341 (sd_w ((sd_w (22 + (sd_w (3 * p1)))) + 2)).toNat)
    · rw [if_pos c6] at h
      refine sd_b_ct (c := .lt) (tgt := 84) rfl (decide_eq_true c6) (by decide) ?_
      refine sd_b_go 1 (pc2 := 85) (lv2 := [(3, .inl (M 341 (sd_w ((sd_w (22 + (sd_w (3 * p1)))) + 2)).toNat)), (2, .inl (M 341 (sd_w (22 + (sd_w (3 * p1)))).toNat)), (0, .inr (.inr (some (331)))), (1, .inl (p1))]) (st2 := [.inl (0)]) rfl ?_
      cases h
      exact sd_b_rt rfl rfl rfl
    · rw [if_neg c6] at h
      refine sd_b_cf (c := .lt) rfl (decide_eq_false c6) (by decide) ?_
      refine sd_b_go 2 (pc2 := 85) (lv2 := [(3, .inl (M 341 (sd_w ((sd_w (22 + (sd_w (3 * p1)))) + 2)).toNat)), (2, .inl (M 341 (sd_w (22 + (sd_w (3 * p1)))).toNat)), (0, .inr (.inr (some (331)))), (1, .inl (p1))]) (st2 := [.inl (1)]) rfl ?_
      cases h
      exact sd_b_rt rfl rfl rfl
  · rw [if_neg c4] at h
    by_cases c7 : (M 341 (sd_w ((sd_w (22 + (sd_w (3 * p1)))) + 1)).toNat) = 1
    · rw [if_pos c7] at h
      refine sd_b_eq c7 ?_
      refine sd_b_go 1 (pc2 := 86) (lv2 := [(3, .inl (M 341 (sd_w ((sd_w (22 + (sd_w (3 * p1)))) + 2)).toNat)), (2, .inl (M 341 (sd_w (22 + (sd_w (3 * p1)))).toNat)), (0, .inr (.inr (some (331)))), (1, .inl (p1))]) (st2 := []) rfl ?_
      refine sd_b_go 2 (pc2 := 88) (lv2 := [(3, .inl (M 341 (sd_w ((sd_w (22 + (sd_w (3 * p1)))) + 2)).toNat)), (2, .inl (M 341 (sd_w (22 + (sd_w (3 * p1)))).toNat)), (0, .inr (.inr (some (331)))), (1, .inl (p1))]) (st2 := [.inl (M 341 (sd_w ((sd_w (22 + (sd_w (3 * p1)))) + 2)).toNat), .inr (.inr (some (331)))]) rfl ?_
      obtain ⟨r8, e8, h⟩ := sd_bnd h
      refine sd_b_call [.inr (.inr (some (331))), .inl (M 341 (sd_w ((sd_w (22 + (sd_w (3 * p1)))) + 2)).toNat)] [] rfl rfl sd_i_X10_isLine rfl rfl (Nat.le_of_ble_eq_true rfl) (sd_rc_v sd_o_331) (m_X10_isLine (by omega) e8) ?_
      obtain ⟨g9, h⟩ := sd_if h
      cases h
      exact sd_b_rz g9 rfl rfl
    · rw [if_neg c7] at h
      by_cases c10 : (M 341 (sd_w ((sd_w (22 + (sd_w (3 * p1)))) + 1)).toNat) = 2
      · rw [if_pos c10] at h
        refine sd_b_eq c10 ?_
        refine sd_b_go 1 (pc2 := 92) (lv2 := [(3, .inl (M 341 (sd_w ((sd_w (22 + (sd_w (3 * p1)))) + 2)).toNat)), (2, .inl (M 341 (sd_w (22 + (sd_w (3 * p1)))).toNat)), (0, .inr (.inr (some (331)))), (1, .inl (p1))]) (st2 := []) rfl ?_
        refine sd_b_go 2 (pc2 := 94) (lv2 := [(3, .inl (M 341 (sd_w ((sd_w (22 + (sd_w (3 * p1)))) + 2)).toNat)), (2, .inl (M 341 (sd_w (22 + (sd_w (3 * p1)))).toNat)), (0, .inr (.inr (some (331)))), (1, .inl (p1))]) (st2 := [.inl (M 341 (sd_w (22 + (sd_w (3 * p1)))).toNat), .inr (.inr (some (331)))]) rfl ?_
        obtain ⟨r11, e11, h⟩ := sd_bnd h
        refine sd_b_call [.inr (.inr (some (331))), .inl (M 341 (sd_w (22 + (sd_w (3 * p1)))).toNat)] [] rfl rfl sd_i_X10_signedOf rfl rfl (Nat.le_of_ble_eq_true rfl) (sd_rc_v sd_o_331) (m_X10_signedOf (by omega) e11) ?_
        refine sd_b_go 1 (pc2 := 98) (lv2 := [(3, .inl (M 341 (sd_w ((sd_w (22 + (sd_w (3 * p1)))) + 2)).toNat)), (2, .inl (M 341 (sd_w (22 + (sd_w (3 * p1)))).toNat)), (0, .inr (.inr (some (331)))), (1, .inl (p1))]) (st2 := [.inl (M 341 (sd_w ((sd_w (22 + (sd_w (3 * p1)))) + 2)).toNat), .inl (r11.1)]) rfl ?_
        by_cases c12 : r11.1 < (M 341 (sd_w ((sd_w (22 + (sd_w (3 * p1)))) + 2)).toNat)
        · rw [if_pos c12] at h
          refine sd_b_ct (c := .lt) (tgt := 105) rfl (decide_eq_true c12) (by decide) ?_
          refine sd_b_go 1 (pc2 := 106) (lv2 := [(3, .inl (M 341 (sd_w ((sd_w (22 + (sd_w (3 * p1)))) + 2)).toNat)), (2, .inl (M 341 (sd_w (22 + (sd_w (3 * p1)))).toNat)), (0, .inr (.inr (some (331)))), (1, .inl (p1))]) (st2 := [.inl (0)]) rfl ?_
          cases h
          exact sd_b_rt rfl rfl rfl
        · rw [if_neg c12] at h
          refine sd_b_cf (c := .lt) rfl (decide_eq_false c12) (by decide) ?_
          refine sd_b_go 2 (pc2 := 106) (lv2 := [(3, .inl (M 341 (sd_w ((sd_w (22 + (sd_w (3 * p1)))) + 2)).toNat)), (2, .inl (M 341 (sd_w (22 + (sd_w (3 * p1)))).toNat)), (0, .inr (.inr (some (331)))), (1, .inl (p1))]) (st2 := [.inl (1)]) rfl ?_
          cases h
          exact sd_b_rt rfl rfl rfl
      · rw [if_neg c10] at h
        by_cases c13 : (M 341 (sd_w ((sd_w (22 + (sd_w (3 * p1)))) + 1)).toNat) = 3
        · rw [if_pos c13] at h
          refine sd_b_eq c13 ?_
          refine sd_b_go 1 (pc2 := 107) (lv2 := [(3, .inl (M 341 (sd_w ((sd_w (22 + (sd_w (3 * p1)))) + 2)).toNat)), (2, .inl (M 341 (sd_w (22 + (sd_w (3 * p1)))).toNat)), (0, .inr (.inr (some (331)))), (1, .inl (p1))]) (st2 := []) rfl ?_
          refine sd_b_go 1 (pc2 := 108) (lv2 := [(3, .inl (M 341 (sd_w ((sd_w (22 + (sd_w (3 * p1)))) + 2)).toNat)), (2, .inl (M 341 (sd_w (22 + (sd_w (3 * p1)))).toNat)), (0, .inr (.inr (some (331)))), (1, .inl (p1))]) (st2 := [.inr (.inr (some (331)))]) rfl ?_
          refine sd_b_gr (k := 20) sd_o_331 rfl rfl rfl ?_
          refine sd_b_go 1 (pc2 := 113) (lv2 := [(3, .inl (M 341 (sd_w ((sd_w (22 + (sd_w (3 * p1)))) + 2)).toNat)), (2, .inl (M 341 (sd_w (22 + (sd_w (3 * p1)))).toNat)), (0, .inr (.inr (some (331)))), (1, .inl (p1))]) (st2 := [.inl (60), .inr (.inr (some (341)))]) rfl ?_
          refine sd_b_ai (i := 60) (sd_oa sd_o_331 (by decide) (off := 10) (List.mem_of_getElem? (i := 9) rfl)) (by decide) rfl ?_
          refine sd_b_go 1 (pc2 := 115) (lv2 := [(3, .inl (M 341 (sd_w ((sd_w (22 + (sd_w (3 * p1)))) + 2)).toNat)), (2, .inl (M 341 (sd_w (22 + (sd_w (3 * p1)))).toNat)), (0, .inr (.inr (some (331)))), (1, .inl (p1))]) (st2 := [.inl (M 341 (sd_w ((sd_w (22 + (sd_w (3 * p1)))) + 2)).toNat), .inl (M 341 60)]) rfl ?_
          by_cases c14 : (M 341 (sd_w ((sd_w (22 + (sd_w (3 * p1)))) + 2)).toNat) < (M 341 60)
          · rw [if_pos c14] at h
            refine sd_b_ct (c := .gt) (tgt := 122) rfl (decide_eq_true c14) (by decide) ?_
            refine sd_b_go 1 (pc2 := 123) (lv2 := [(3, .inl (M 341 (sd_w ((sd_w (22 + (sd_w (3 * p1)))) + 2)).toNat)), (2, .inl (M 341 (sd_w (22 + (sd_w (3 * p1)))).toNat)), (0, .inr (.inr (some (331)))), (1, .inl (p1))]) (st2 := [.inl (0)]) rfl ?_
            cases h
            exact sd_b_rt rfl rfl rfl
          · rw [if_neg c14] at h
            refine sd_b_cf (c := .gt) rfl (decide_eq_false c14) (by decide) ?_
            refine sd_b_go 2 (pc2 := 123) (lv2 := [(3, .inl (M 341 (sd_w ((sd_w (22 + (sd_w (3 * p1)))) + 2)).toNat)), (2, .inl (M 341 (sd_w (22 + (sd_w (3 * p1)))).toNat)), (0, .inr (.inr (some (331)))), (1, .inl (p1))]) (st2 := [.inl (1)]) rfl ?_
            cases h
            exact sd_b_rt rfl rfl rfl
        · rw [if_neg c13] at h
          by_cases c15 : (M 341 (sd_w ((sd_w (22 + (sd_w (3 * p1)))) + 1)).toNat) = 4
          · rw [if_pos c15] at h
            refine sd_b_eq c15 ?_
            refine sd_b_go 1 (pc2 := 124) (lv2 := [(3, .inl (M 341 (sd_w ((sd_w (22 + (sd_w (3 * p1)))) + 2)).toNat)), (2, .inl (M 341 (sd_w (22 + (sd_w (3 * p1)))).toNat)), (0, .inr (.inr (some (331)))), (1, .inl (p1))]) (st2 := []) rfl ?_
            refine sd_b_go 1 (pc2 := 125) (lv2 := [(3, .inl (M 341 (sd_w ((sd_w (22 + (sd_w (3 * p1)))) + 2)).toNat)), (2, .inl (M 341 (sd_w (22 + (sd_w (3 * p1)))).toNat)), (0, .inr (.inr (some (331)))), (1, .inl (p1))]) (st2 := [.inr (.inr (some (331)))]) rfl ?_
            obtain ⟨r16, e16, h⟩ := sd_bnd h
            refine sd_b_call [.inr (.inr (some (331)))] [] rfl rfl sd_i_X10_shortNow rfl rfl (Nat.le_of_ble_eq_true rfl) (sd_rc_v sd_o_331) (m_X10_shortNow (by omega) e16) ?_
            refine sd_b_go 1 (pc2 := 129) (lv2 := [(3, .inl (M 341 (sd_w ((sd_w (22 + (sd_w (3 * p1)))) + 2)).toNat)), (2, .inl (M 341 (sd_w (22 + (sd_w (3 * p1)))).toNat)), (0, .inr (.inr (some (331)))), (1, .inl (p1))]) (st2 := [.inl (M 341 (sd_w ((sd_w (22 + (sd_w (3 * p1)))) + 2)).toNat), .inl (r16.1)]) rfl ?_
            by_cases c17 : (M 341 (sd_w ((sd_w (22 + (sd_w (3 * p1)))) + 2)).toNat) < r16.1
            · rw [if_pos c17] at h
              refine sd_b_ct (c := .gt) (tgt := 136) rfl (decide_eq_true c17) (by decide) ?_
              refine sd_b_go 1 (pc2 := 137) (lv2 := [(3, .inl (M 341 (sd_w ((sd_w (22 + (sd_w (3 * p1)))) + 2)).toNat)), (2, .inl (M 341 (sd_w (22 + (sd_w (3 * p1)))).toNat)), (0, .inr (.inr (some (331)))), (1, .inl (p1))]) (st2 := [.inl (0)]) rfl ?_
              cases h
              exact sd_b_rt rfl rfl rfl
            · rw [if_neg c17] at h
              refine sd_b_cf (c := .gt) rfl (decide_eq_false c17) (by decide) ?_
              refine sd_b_go 2 (pc2 := 137) (lv2 := [(3, .inl (M 341 (sd_w ((sd_w (22 + (sd_w (3 * p1)))) + 2)).toNat)), (2, .inl (M 341 (sd_w (22 + (sd_w (3 * p1)))).toNat)), (0, .inr (.inr (some (331)))), (1, .inl (p1))]) (st2 := [.inl (1)]) rfl ?_
              cases h
              exact sd_b_rt rfl rfl rfl
          · rw [if_neg c15] at h
            refine sd_b_td (tgt := 138) rfl (by omega) (by decide) ?_
            refine sd_b_go 1 (pc2 := 139) (lv2 := [(3, .inl (M 341 (sd_w ((sd_w (22 + (sd_w (3 * p1)))) + 2)).toNat)), (2, .inl (M 341 (sd_w (22 + (sd_w (3 * p1)))).toNat)), (0, .inr (.inr (some (331)))), (1, .inl (p1))]) (st2 := [.inr (.inr (some (331)))]) rfl ?_
            refine sd_b_gr (k := 20) sd_o_331 rfl rfl rfl ?_
            refine sd_b_go 1 (pc2 := 144) (lv2 := [(3, .inl (M 341 (sd_w ((sd_w (22 + (sd_w (3 * p1)))) + 2)).toNat)), (2, .inl (M 341 (sd_w (22 + (sd_w (3 * p1)))).toNat)), (0, .inr (.inr (some (331)))), (1, .inl (p1))]) (st2 := [.inl (58), .inr (.inr (some (341)))]) rfl ?_
            refine sd_b_ai (i := 58) (sd_oa sd_o_331 (by decide) (off := 10) (List.mem_of_getElem? (i := 9) rfl)) (by decide) rfl ?_
            refine sd_b_go 1 (pc2 := 146) (lv2 := [(3, .inl (M 341 (sd_w ((sd_w (22 + (sd_w (3 * p1)))) + 2)).toNat)), (2, .inl (M 341 (sd_w (22 + (sd_w (3 * p1)))).toNat)), (0, .inr (.inr (some (331)))), (1, .inl (p1))]) (st2 := [.inl (M 341 (sd_w ((sd_w (22 + (sd_w (3 * p1)))) + 2)).toNat), .inl (M 341 58)]) rfl ?_
            by_cases c18 : (M 341 (sd_w ((sd_w (22 + (sd_w (3 * p1)))) + 2)).toNat) < (M 341 58)
            · rw [if_pos c18] at h
              refine sd_b_ct (c := .gt) (tgt := 153) rfl (decide_eq_true c18) (by decide) ?_
              refine sd_b_go 1 (pc2 := 154) (lv2 := [(3, .inl (M 341 (sd_w ((sd_w (22 + (sd_w (3 * p1)))) + 2)).toNat)), (2, .inl (M 341 (sd_w (22 + (sd_w (3 * p1)))).toNat)), (0, .inr (.inr (some (331)))), (1, .inl (p1))]) (st2 := [.inl (0)]) rfl ?_
              cases h
              exact sd_b_rt rfl rfl rfl
            · rw [if_neg c18] at h
              refine sd_b_cf (c := .gt) rfl (decide_eq_false c18) (by decide) ?_
              refine sd_b_go 2 (pc2 := 154) (lv2 := [(3, .inl (M 341 (sd_w ((sd_w (22 + (sd_w (3 * p1)))) + 2)).toNat)), (2, .inl (M 341 (sd_w (22 + (sd_w (3 * p1)))).toNat)), (0, .inr (.inr (some (331)))), (1, .inl (p1))]) (st2 := [.inl (1)]) rfl ?_
              cases h
              exact sd_b_rt rfl rfl rfl
theorem m_X10_holds {X : Nat → List sd_V → List sd_E → sd_A → Prop} {d : Nat} (hd : 4 ≤ d) {p1 : Int} {M : sd_M} {Rr : Int × sd_M} (h : f_X10_holds p1 M = some Rr) : sd_Cal X d 186 [.inr (.inr (some (331))), .inl (p1)] (sd_rp M) (some (.inl Rr.1), sd_rp Rr.2, 0, 0) := by
  obtain ⟨d, rfl⟩ : ∃ d2, d = d2 + 1 := ⟨d - 1, by omega⟩
  exact sd_cal_of sd_i_X10_holds (Nat.le_of_ble_eq_true rfl) (t_X10_holds (by omega) p1 M Rr h)
-- X10_hasAll
def sd_q_X10_hasAll : sd_MI := (yX10_hasAll, cX10_hasAll, 3, (some .boolean), 10, 1, sd_t_X10_hasAll)
set_option maxRecDepth 4000 in
theorem sd_i_X10_hasAll : sd_mL[187]? = some sd_q_X10_hasAll := rfl
def f_X10_hasAll_37 (k2 : Int → Int → sd_M → Option (Int × sd_M)) (v1 : Int) (v2 : Int) (M : sd_M) : Option (Int × sd_M) := k2 v1 (sd_w (v2 + 1)) M
set_option maxRecDepth 4000 in
theorem t_X10_hasAll_37 {X : Nat → List sd_V → List sd_E → sd_A → Prop} {d : Nat} (hd : 4 ≤ d) (k2 : Int → Int → sd_M → Option (Int × sd_M)) (hk2 : ∀ (v1 : Int) (v2 : Int) (M : sd_M) (Rr : Int × sd_M), k2 v1 v2 M = some Rr → sd_B X d sd_q_X10_hasAll 2 [(0, .inr (.inr (some (331)))), (1, .inl (v1)), (2, .inl (v2))] [] M (some (.inl Rr.1), sd_rp Rr.2, 0, 0)) (v1 : Int) (v2 : Int) (M : sd_M) (Rr : Int × sd_M) (h : f_X10_hasAll_37 k2 v1 v2 M = some Rr) : sd_B X d sd_q_X10_hasAll 37 [(0, .inr (.inr (some (331)))), (1, .inl (v1)), (2, .inl (v2))] [] M (some (.inl Rr.1), sd_rp Rr.2, 0, 0) := by
  unfold f_X10_hasAll_37 at h
  refine sd_b_go 2 (pc2 := 2) (lv2 := [(2, .inl (sd_w (v2 + 1))), (0, .inr (.inr (some (331)))), (1, .inl (v1))]) (st2 := []) rfl ?_
  refine sd_b_wk [(0, .inr (.inr (some (331)))), (1, .inl (v1)), (2, .inl (sd_w (v2 + 1)))] (List.forall_mem_cons.mpr ⟨rfl, (List.forall_mem_cons.mpr ⟨rfl, (List.forall_mem_cons.mpr ⟨rfl, (fun _ h0 => absurd h0 List.not_mem_nil)⟩)⟩)⟩) ?_
  exact hk2 v1 (sd_w (v2 + 1)) M _ h
def f_X10_hasAll_2 : Nat → Int → Int → sd_M → Option (Int × sd_M)
  | 0, _, _, _ => none
  | n + 1, v1, v2, M => if (M 341 3) ≤ v2 then (some (1, M)) else (if 0 ≤ (sd_w (22 + (sd_w (3 * v2)))) ∧ (sd_w (22 + (sd_w (3 * v2)))) < 128 then (if (M 341 (sd_w (22 + (sd_w (3 * v2)))).toNat) = v1 then ((f_X10_holds v2 M).bind fun r4 => if r4.1 = 0 then (some (0, r4.2)) else (f_X10_hasAll_37 (f_X10_hasAll_2 n) v1 v2 r4.2)) else (f_X10_hasAll_37 (f_X10_hasAll_2 n) v1 v2 M)) else none)
set_option maxRecDepth 4000 in
theorem t_X10_hasAll_2 {X : Nat → List sd_V → List sd_E → sd_A → Prop} {d : Nat} (hd : 4 ≤ d) : ∀ (n : Nat) (v1 : Int) (v2 : Int) (M : sd_M) (Rr : Int × sd_M), f_X10_hasAll_2 n v1 v2 M = some Rr → sd_B X d sd_q_X10_hasAll 2 [(0, .inr (.inr (some (331)))), (1, .inl (v1)), (2, .inl (v2))] [] M (some (.inl Rr.1), sd_rp Rr.2, 0, 0) := by
  intro n
  induction n with
  | zero => intro v1 v2 M Rr h; cases h
  | succ n ih =>
    intro v1 v2 M Rr h
    rw [f_X10_hasAll_2] at h
    refine sd_b_go 2 (pc2 := 4) (lv2 := [(0, .inr (.inr (some (331)))), (1, .inl (v1)), (2, .inl (v2))]) (st2 := [.inr (.inr (some (331))), .inl (v2)]) rfl ?_
    refine sd_b_gr (k := 20) sd_o_331 rfl rfl rfl ?_
    refine sd_b_go 1 (pc2 := 8) (lv2 := [(0, .inr (.inr (some (331)))), (1, .inl (v1)), (2, .inl (v2))]) (st2 := [.inl (3), .inr (.inr (some (341))), .inl (v2)]) rfl ?_
    refine sd_b_ai (i := 3) (sd_oa sd_o_331 (by decide) (off := 10) (List.mem_of_getElem? (i := 9) rfl)) (by decide) rfl ?_
    by_cases c1 : (M 341 3) ≤ v2
    · rw [if_pos c1] at h
      refine sd_b_ct (c := .ge) (tgt := 43) rfl (decide_eq_true c1) (by decide) ?_
      refine sd_b_go 1 (pc2 := 44) (lv2 := [(0, .inr (.inr (some (331)))), (1, .inl (v1)), (2, .inl (v2))]) (st2 := [.inl (1)]) rfl ?_
      cases h
      exact sd_b_rt rfl rfl rfl
    · rw [if_neg c1] at h
      refine sd_b_cf (c := .ge) rfl (decide_eq_false c1) (by decide) ?_
      refine sd_b_go 1 (pc2 := 13) (lv2 := [(0, .inr (.inr (some (331)))), (1, .inl (v1)), (2, .inl (v2))]) (st2 := [.inr (.inr (some (331)))]) rfl ?_
      refine sd_b_gr (k := 20) sd_o_331 rfl rfl rfl ?_
      refine sd_b_go 5 (pc2 := 22) (lv2 := [(0, .inr (.inr (some (331)))), (1, .inl (v1)), (2, .inl (v2))]) (st2 := [.inl (sd_w (22 + (sd_w (3 * v2)))), .inr (.inr (some (341)))]) rfl ?_
      obtain ⟨g2, h⟩ := sd_if h
      refine sd_b_ai (sd_oa sd_o_331 (by decide) (off := 10) (List.mem_of_getElem? (i := 9) rfl)) g2 rfl ?_
      refine sd_b_go 1 (pc2 := 24) (lv2 := [(0, .inr (.inr (some (331)))), (1, .inl (v1)), (2, .inl (v2))]) (st2 := [.inl (v1), .inl (M 341 (sd_w (22 + (sd_w (3 * v2)))).toNat)]) rfl ?_
      by_cases c3 : (M 341 (sd_w (22 + (sd_w (3 * v2)))).toNat) = v1
      · rw [if_pos c3] at h
        refine sd_b_cf (c := .ne) rfl (decide_eq_false (not_not_intro c3)) (by decide) ?_
        refine sd_b_go 2 (pc2 := 29) (lv2 := [(0, .inr (.inr (some (331)))), (1, .inl (v1)), (2, .inl (v2))]) (st2 := [.inl (v2), .inr (.inr (some (331)))]) rfl ?_
        obtain ⟨r4, e4, h⟩ := sd_bnd h
        refine sd_b_call [.inr (.inr (some (331))), .inl (v2)] [] rfl rfl sd_i_X10_holds rfl rfl (Nat.le_of_ble_eq_true rfl) (sd_rc_v sd_o_331) (m_X10_holds (by omega) e4) ?_
        by_cases c5 : r4.1 = 0
        · rw [if_pos c5] at h
          refine sd_b_zf (c := .ne) rfl (decide_eq_false (not_not_intro c5)) (by decide) ?_
          refine sd_b_go 1 (pc2 := 36) (lv2 := [(0, .inr (.inr (some (331)))), (1, .inl (v1)), (2, .inl (v2))]) (st2 := [.inl (0)]) rfl ?_
          cases h
          exact sd_b_rt rfl rfl rfl
        · rw [if_neg c5] at h
          refine sd_b_zt (c := .ne) (tgt := 37) rfl (decide_eq_true c5) (by decide) ?_
          refine sd_b_wk [(0, .inr (.inr (some (331)))), (1, .inl (v1)), (2, .inl (v2))] (List.forall_mem_cons.mpr ⟨rfl, (List.forall_mem_cons.mpr ⟨rfl, (List.forall_mem_cons.mpr ⟨rfl, (fun _ h0 => absurd h0 List.not_mem_nil)⟩)⟩)⟩) ?_
          exact t_X10_hasAll_37 hd (f_X10_hasAll_2 n) ih v1 v2 r4.2 _ h
      · rw [if_neg c3] at h
        refine sd_b_ct (c := .ne) (tgt := 37) rfl (decide_eq_true c3) (by decide) ?_
        refine sd_b_wk [(0, .inr (.inr (some (331)))), (1, .inl (v1)), (2, .inl (v2))] (List.forall_mem_cons.mpr ⟨rfl, (List.forall_mem_cons.mpr ⟨rfl, (List.forall_mem_cons.mpr ⟨rfl, (fun _ h0 => absurd h0 List.not_mem_nil)⟩)⟩)⟩) ?_
        exact t_X10_hasAll_37 hd (f_X10_hasAll_2 n) ih v1 v2 M _ h
def f_X10_hasAll (p1 : Int) (M : sd_M) : Option (Int × sd_M) := f_X10_hasAll_2 4000 p1 0 M
set_option maxRecDepth 4000 in
theorem t_X10_hasAll {X : Nat → List sd_V → List sd_E → sd_A → Prop} {d : Nat} (hd : 4 ≤ d) (p1 : Int) (M : sd_M) (Rr : Int × sd_M) (h : f_X10_hasAll p1 M = some Rr) : sd_B X d sd_q_X10_hasAll 0 [(0, .inr (.inr (some (331)))), (1, .inl (p1))] [] M (some (.inl Rr.1), sd_rp Rr.2, 0, 0) := by
  unfold f_X10_hasAll at h
  refine sd_b_go 2 (pc2 := 2) (lv2 := [(2, .inl (0)), (0, .inr (.inr (some (331)))), (1, .inl (p1))]) (st2 := []) rfl ?_
  refine sd_b_wk [(0, .inr (.inr (some (331)))), (1, .inl (p1)), (2, .inl (0))] (List.forall_mem_cons.mpr ⟨rfl, (List.forall_mem_cons.mpr ⟨rfl, (List.forall_mem_cons.mpr ⟨rfl, (fun _ h0 => absurd h0 List.not_mem_nil)⟩)⟩)⟩) ?_
  exact t_X10_hasAll_2 hd 4000 p1 0 M _ h
theorem m_X10_hasAll {X : Nat → List sd_V → List sd_E → sd_A → Prop} {d : Nat} (hd : 5 ≤ d) {p1 : Int} {M : sd_M} {Rr : Int × sd_M} (h : f_X10_hasAll p1 M = some Rr) : sd_Cal X d 187 [.inr (.inr (some (331))), .inl (p1)] (sd_rp M) (some (.inl Rr.1), sd_rp Rr.2, 0, 0) := by
  obtain ⟨d, rfl⟩ : ∃ d2, d = d2 + 1 := ⟨d - 1, by omega⟩
  exact sd_cal_of sd_i_X10_hasAll (Nat.le_of_ble_eq_true rfl) (t_X10_hasAll (by omega) p1 M Rr h)
