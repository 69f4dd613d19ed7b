-- X9_write
def sd_q_X9_write : sd_MI := (yX9_write, cX9_write, 3, (some .int), 9, 2, sd_t_X9_write)
set_option maxRecDepth 4000 in
theorem sd_i_X9_write : sd_mL[86]? = some sd_q_X9_write := rfl
def f_X9_write (p1 : Int) (p2 : Int) (M : sd_M) : Option (Int × sd_M) := (f_X9_isLine p1 M).bind fun r1 => if r1.1 = 0 then (some ((-1), r1.2)) else ((f_X9_isNumber p2 r1.2).bind fun r3 => if r3.1 = 0 then (some ((-1), r3.2)) else (if 0 ≤ p1 ∧ p1 < 9 then (if p2 = ((r3.2) 67 p1.toNat) then (some ((-1), r3.2)) else ((f_X9_remember r3.2).bind fun r7 => (f_X0_rewrite 66 p1 p2 r7.2).bind fun r8 => (f_X0_settle 66 r8.2).bind fun r9 => (f_X9_isLine p1 r9.2).bind fun r10 => if r10.1 = 0 then (some ((-2), r10.2)) else (if 0 ≤ p1 ∧ p1 < 9 then (some ((r10.2) 70 p1.toNat, r10.2)) else none))) else none))
set_option maxRecDepth 4000 in
theorem t_X9_write {X : Nat → List sd_V → List sd_E → sd_A → Prop} {d : Nat} (hd : 5 ≤ d) (p1 : Int) (p2 : Int) (M : sd_M) (Rr : Int × sd_M) (h : f_X9_write p1 p2 M = some Rr) : sd_B X d sd_q_X9_write 0 [(0, .inr (.inr (some (0)))), (1, .inl (p1)), (2, .inl (p2))] [] M (some (.inl Rr.1), sd_rp Rr.2, 0, 0) := by
  unfold f_X9_write at h
  refine sd_b_go 2 (pc2 := 2) (lv2 := [(0, .inr (.inr (some (0)))), (1, .inl (p1)), (2, .inl (p2))]) (st2 := [.inl (p1), .inr (.inr (some (0)))]) rfl ?_
  obtain ⟨r1, e1, h⟩ := sd_bnd h
  refine sd_b_call [.inr (.inr (some (0))), .inl (p1)] [] rfl rfl sd_i_X9_isLine rfl rfl (Nat.le_of_ble_eq_true rfl) (sd_rc_v sd_o_0) (m_X9_isLine (by omega) e1) ?_
  by_cases c2 : r1.1 = 0
  · rw [if_pos c2] at h
    refine sd_b_zt (c := .eq) (tgt := 31) rfl (decide_eq_true c2) (by decide) ?_
    refine sd_b_go 1 (pc2 := 32) (lv2 := [(0, .inr (.inr (some (0)))), (1, .inl (p1)), (2, .inl (p2))]) (st2 := [.inl ((-1))]) rfl ?_
    cases h
    exact sd_b_rt rfl rfl rfl
  · rw [if_neg c2] at h
    refine sd_b_zf (c := .eq) rfl (decide_eq_false c2) (by decide) ?_
    refine sd_b_go 1 (pc2 := 9) (lv2 := [(0, .inr (.inr (some (0)))), (1, .inl (p1)), (2, .inl (p2))]) (st2 := [.inl (p2)]) rfl ?_
    obtain ⟨r3, e3, h⟩ := sd_bnd h
    refine sd_b_call [.inl (p2)] [] rfl rfl sd_i_X9_isNumber rfl rfl (Nat.le_of_ble_eq_true rfl) rfl (m_X9_isNumber (by omega) e3) ?_
    by_cases c4 : r3.1 = 0
    · rw [if_pos c4] at h
      refine sd_b_zt (c := .eq) (tgt := 31) rfl (decide_eq_true c4) (by decide) ?_
      refine sd_b_go 1 (pc2 := 32) (lv2 := [(0, .inr (.inr (some (0)))), (1, .inl (p1)), (2, .inl (p2))]) (st2 := [.inl ((-1))]) rfl ?_
      cases h
      exact sd_b_rt rfl rfl rfl
    · rw [if_neg c4] at h
      refine sd_b_zf (c := .eq) rfl (decide_eq_false c4) (by decide) ?_
      refine sd_b_go 2 (pc2 := 17) (lv2 := [(0, .inr (.inr (some (0)))), (1, .inl (p1)), (2, .inl (p2))]) (st2 := [.inr (.inr (some (0))), .inl (p2)]) rfl ?_
      refine sd_b_gr (k := 5) sd_o_0 rfl rfl rfl ?_
      refine sd_b_gr (k := 1) sd_o_58 rfl rfl rfl ?_
      refine sd_b_gr (k := 5) sd_o_66 rfl rfl rfl ?_
      refine sd_b_go 1 (pc2 := 27) (lv2 := [(0, .inr (.inr (some (0)))), (1, .inl (p1)), (2, .inl (p2))]) (st2 := [.inl (p1), .inr (.inr (some (67))), .inl (p2)]) rfl ?_
      obtain ⟨g5, h⟩ := sd_if h
      refine sd_b_ai (sd_oa sd_o_66 (by decide) (off := 1) (List.mem_of_getElem? (i := 0) rfl)) g5 rfl ?_
      by_cases c6 : p2 = ((r3.2) 67 p1.toNat)
      · rw [if_pos c6] at h
        refine sd_b_cf (c := .ne) rfl (decide_eq_false (not_not_intro c6)) (by decide) ?_
        refine sd_b_go 1 (pc2 := 32) (lv2 := [(0, .inr (.inr (some (0)))), (1, .inl (p1)), (2, .inl (p2))]) (st2 := [.inl ((-1))]) rfl ?_
        cases h
        exact sd_b_rt rfl rfl rfl
      · rw [if_neg c6] at h
        refine sd_b_ct (c := .ne) (tgt := 33) rfl (decide_eq_true c6) (by decide) ?_
        refine sd_b_go 1 (pc2 := 34) (lv2 := [(0, .inr (.inr (some (0)))), (1, .inl (p1)), (2, .inl (p2))]) (st2 := [.inr (.inr (some (0)))]) rfl ?_
        obtain ⟨r7, e7, h⟩ := sd_bnd h
        refine sd_b_call [.inr (.inr (some (0)))] [] rfl rfl sd_i_X9_remember rfl rfl (Nat.le_of_ble_eq_true rfl) (sd_rc_v sd_o_0) (m_X9_remember (by omega) e7) ?_
        refine sd_b_go 1 (pc2 := 38) (lv2 := [(0, .inr (.inr (some (0)))), (1, .inl (p1)), (2, .inl (p2))]) (st2 := [.inr (.inr (some (0)))]) rfl ?_
        refine sd_b_gr (k := 5) sd_o_0 rfl rfl rfl ?_
        refine sd_b_gr (k := 1) sd_o_58 rfl rfl rfl ?_
        refine sd_b_go 2 (pc2 := 46) (lv2 := [(0, .inr (.inr (some (0)))), (1, .inl (p1)), (2, .inl (p2))]) (st2 := [.inl (p2), .inl (p1), .inr (.inr (some (66)))]) rfl ?_
        obtain ⟨r8, e8, h⟩ := sd_bnd h
        refine sd_b_call [.inr (.inr (some (66))), .inl (p1), .inl (p2)] [] rfl rfl sd_i_X0_rewrite rfl rfl (Nat.le_of_ble_eq_true rfl) (sd_rc_v sd_o_66) (m_X0_rewrite (by omega) sd_o_66 e8) ?_
        refine sd_b_go 1 (pc2 := 50) (lv2 := [(0, .inr (.inr (some (0)))), (1, .inl (p1)), (2, .inl (p2))]) (st2 := [.inr (.inr (some (0)))]) rfl ?_
        refine sd_b_gr (k := 5) sd_o_0 rfl rfl rfl ?_
        refine sd_b_gr (k := 1) sd_o_58 rfl rfl rfl ?_
        refine sd_b_go 1 (pc2 := 57) (lv2 := [(0, .inr (.inr (some (0)))), (1, .inl (p1)), (2, .inl (p2))]) (st2 := [.inr (.inr (some (0))), .inr (.inr (some (66)))]) rfl ?_
        refine sd_b_gr (k := 5) sd_o_0 rfl rfl rfl ?_
        refine sd_b_gr (k := 0) sd_o_58 rfl rfl rfl ?_
        obtain ⟨r9, e9, h⟩ := sd_bnd h
        refine sd_b_call [.inr (.inr (some (66))), .inr (.inr (some (59)))] [] rfl rfl sd_i_X0_settle rfl rfl (Nat.le_of_ble_eq_true rfl) (sd_rc_v sd_o_66) (m_X0_settle (by omega) sd_o_66 e9) ?_
        refine sd_b_go 3 (pc2 := 69) (lv2 := [(0, .inr (.inr (some (0)))), (1, .inl (p1)), (2, .inl (p2))]) (st2 := [.inl (p1), .inr (.inr (some (0)))]) rfl ?_
        obtain ⟨r10, e10, h⟩ := sd_bnd h
        refine sd_b_call [.inr (.inr (some (0))), .inl (p1)] [] rfl rfl sd_i_X9_isLine rfl rfl (Nat.le_of_ble_eq_true rfl) (sd_rc_v sd_o_0) (m_X9_isLine (by omega) e10) ?_
        by_cases c11 : r10.1 = 0
        · rw [if_pos c11] at h
          refine sd_b_zt (c := .eq) (tgt := 90) rfl (decide_eq_true c11) (by decide) ?_
          refine sd_b_go 1 (pc2 := 92) (lv2 := [(0, .inr (.inr (some (0)))), (1, .inl (p1)), (2, .inl (p2))]) (st2 := [.inl ((-2))]) rfl ?_
          cases h
          exact sd_b_rt rfl rfl rfl
        · rw [if_neg c11] at h
          refine sd_b_zf (c := .eq) rfl (decide_eq_false c11) (by decide) ?_
          refine sd_b_go 1 (pc2 := 76) (lv2 := [(0, .inr (.inr (some (0)))), (1, .inl (p1)), (2, .inl (p2))]) (st2 := [.inr (.inr (some (0)))]) rfl ?_
          refine sd_b_gr (k := 5) sd_o_0 rfl rfl rfl ?_
          refine sd_b_gr (k := 1) sd_o_58 rfl rfl rfl ?_
          refine sd_b_gr (k := 8) sd_o_66 rfl rfl rfl ?_
          refine sd_b_go 1 (pc2 := 86) (lv2 := [(0, .inr (.inr (some (0)))), (1, .inl (p1)), (2, .inl (p2))]) (st2 := [.inl (p1), .inr (.inr (some (70)))]) rfl ?_
          obtain ⟨g12, h⟩ := sd_if h
          refine sd_b_ai (sd_oa sd_o_66 (by decide) (off := 4) (List.mem_of_getElem? (i := 3) rfl)) g12 rfl ?_
          refine sd_b_go 1 (pc2 := 92) (lv2 := [(0, .inr (.inr (some (0)))), (1, .inl (p1)), (2, .inl (p2))]) (st2 := [.inl ((r10.2) 70 p1.toNat)]) rfl ?_
          cases h
          exact sd_b_rt rfl rfl rfl
theorem m_X9_write {X : Nat → List sd_V → List sd_E → sd_A → Prop} {d : Nat} (hd : 6 ≤ d) {p1 : Int} {p2 : Int} {M : sd_M} {Rr : Int × sd_M} (h : f_X9_write p1 p2 M = some Rr) : sd_Cal X d 86 [.inr (.inr (some (0))), .inl (p1), .inl (p2)] (sd_rp M) (some (.inl Rr.1), sd_rp Rr.2, 0, 0) := by
  obtain ⟨d, rfl⟩ : ∃ d2, d = d2 + 1 := ⟨d - 1, by omega⟩
  exact sd_cal_of sd_i_X9_write (Nat.le_of_ble_eq_true rfl) (t_X9_write (by omega) p1 p2 M Rr h)
-- X9_signedIfWritten
def sd_q_X9_signedIfWritten : sd_MI := (yX9_signedIfWritten, cX9_signedIfWritten, 3, (some .int), 9, 2, sd_t_X9_signedIfWritten)
set_option maxRecDepth 4000 in
theorem sd_i_X9_signedIfWritten : sd_mL[92]? = some sd_q_X9_signedIfWritten := rfl
def f_X9_signedIfWritten (p1 : Int) (p2 : Int) (M : sd_M) : Option (Int × sd_M) := (f_X0_copyFrom 318 66 M).bind fun r1 => (f_X0_rewrite 318 p1 p2 r1.2).bind fun r2 => (f_X0_settle 318 r2.2).bind fun r3 => if 0 ≤ p1 ∧ p1 < 9 then (some ((r3.2) 322 p1.toNat, r3.2)) else none
set_option maxRecDepth 4000 in
theorem t_X9_signedIfWritten {X : Nat → List sd_V → List sd_E → sd_A → Prop} {d : Nat} (hd : 5 ≤ d) (p1 : Int) (p2 : Int) (M : sd_M) (Rr : Int × sd_M) (h : f_X9_signedIfWritten p1 p2 M = some Rr) : sd_B X d sd_q_X9_signedIfWritten 0 [(0, .inr (.inr (some (0)))), (1, .inl (p1)), (2, .inl (p2))] [] M (some (.inl Rr.1), sd_rp Rr.2, 0, 0) := by
  unfold f_X9_signedIfWritten at h
  refine sd_b_go 1 (pc2 := 1) (lv2 := [(0, .inr (.inr (some (0)))), (1, .inl (p1)), (2, .inl (p2))]) (st2 := [.inr (.inr (some (0)))]) rfl ?_
  refine sd_b_gr (k := 12) sd_o_0 rfl rfl rfl ?_
  refine sd_b_go 1 (pc2 := 5) (lv2 := [(0, .inr (.inr (some (0)))), (1, .inl (p1)), (2, .inl (p2))]) (st2 := [.inr (.inr (some (0))), .inr (.inr (some (318)))]) rfl ?_
  refine sd_b_gr (k := 5) sd_o_0 rfl rfl rfl ?_
  refine sd_b_gr (k := 1) sd_o_58 rfl rfl rfl ?_
  obtain ⟨r1, e1, h⟩ := sd_bnd h
  refine sd_b_call [.inr (.inr (some (318))), .inr (.inr (some (66)))] [] rfl rfl sd_i_X0_copyFrom rfl rfl (Nat.le_of_ble_eq_true rfl) (sd_rc_v sd_o_318) (m_X0_copyFrom (by omega) sd_o_318 sd_o_66 e1) ?_
  refine sd_b_go 1 (pc2 := 15) (lv2 := [(0, .inr (.inr (some (0)))), (1, .inl (p1)), (2, .inl (p2))]) (st2 := [.inr (.inr (some (0)))]) rfl ?_
  refine sd_b_gr (k := 12) sd_o_0 rfl rfl rfl ?_
  refine sd_b_go 2 (pc2 := 20) (lv2 := [(0, .inr (.inr (some (0)))), (1, .inl (p1)), (2, .inl (p2))]) (st2 := [.inl (p2), .inl (p1), .inr (.inr (some (318)))]) rfl ?_
  obtain ⟨r2, e2, h⟩ := sd_bnd h
  refine sd_b_call [.inr (.inr (some (318))), .inl (p1), .inl (p2)] [] rfl rfl sd_i_X0_rewrite rfl rfl (Nat.le_of_ble_eq_true rfl) (sd_rc_v sd_o_318) (m_X0_rewrite (by omega) sd_o_318 e2) ?_
  refine sd_b_go 1 (pc2 := 24) (lv2 := [(0, .inr (.inr (some (0)))), (1, .inl (p1)), (2, .inl (p2))]) (st2 := [.inr (.inr (some (0)))]) rfl ?_
  refine sd_b_gr (k := 12) sd_o_0 rfl rfl rfl ?_
  refine sd_b_go 1 (pc2 := 28) (lv2 := [(0, .inr (.inr (some (0)))), (1, .inl (p1)), (2, .inl (p2))]) (st2 := [.inr (.inr (some (0))), .inr (.inr (some (318)))]) rfl ?_
  refine sd_b_gr (k := 5) sd_o_0 rfl rfl rfl ?_
  refine sd_b_gr (k := 0) sd_o_58 rfl rfl rfl ?_
  obtain ⟨r3, e3, h⟩ := sd_bnd h
  refine sd_b_call [.inr (.inr (some (318))), .inr (.inr (some (59)))] [] rfl rfl sd_i_X0_settle rfl rfl (Nat.le_of_ble_eq_true rfl) (sd_rc_v sd_o_318) (m_X0_settle (by omega) sd_o_318 e3) ?_
  refine sd_b_go 2 (pc2 := 39) (lv2 := [(0, .inr (.inr (some (0)))), (1, .inl (p1)), (2, .inl (p2))]) (st2 := [.inr (.inr (some (0)))]) rfl ?_
  refine sd_b_gr (k := 12) sd_o_0 rfl rfl rfl ?_
  refine sd_b_gr (k := 8) sd_o_318 rfl rfl rfl ?_
  refine sd_b_go 1 (pc2 := 46) (lv2 := [(0, .inr (.inr (some (0)))), (1, .inl (p1)), (2, .inl (p2))]) (st2 := [.inl (p1), .inr (.inr (some (322)))]) rfl ?_
  obtain ⟨g4, h⟩ := sd_if h
  refine sd_b_ai (sd_oa sd_o_318 (by decide) (off := 4) (List.mem_of_getElem? (i := 3) rfl)) g4 rfl ?_
  cases h
  exact sd_b_rt rfl rfl rfl
theorem m_X9_signedIfWritten {X : Nat → List sd_V → List sd_E → sd_A → Prop} {d : Nat} (hd : 6 ≤ d) {p1 : Int} {p2 : Int} {M : sd_M} {Rr : Int × sd_M} (h : f_X9_signedIfWritten p1 p2 M = some Rr) : sd_Cal X d 92 [.inr (.inr (some (0))), .inl (p1), .inl (p2)] (sd_rp M) (some (.inl Rr.1), sd_rp Rr.2, 0, 0) := by
  obtain ⟨d, rfl⟩ : ∃ d2, d = d2 + 1 := ⟨d - 1, by omega⟩
  exact sd_cal_of sd_i_X9_signedIfWritten (Nat.le_of_ble_eq_true rfl) (t_X9_signedIfWritten (by omega) p1 p2 M Rr h)
-- X9_takeRow
def sd_q_X9_takeRow : sd_MI := (yX9_takeRow, cX9_takeRow, 3, none, 9, 1, sd_t_X9_takeRow)
set_option maxRecDepth 4000 in
theorem sd_i_X9_takeRow : sd_mL[102]? = some sd_q_X9_takeRow := rfl
def f_X9_takeRow_16 : Nat → Int → Int → sd_M → Option (Int × sd_M)
  | 0, _, _, _ => none
  | n + 1, v1, v2, M => if v1 ≤ v2 then (some (0, M)) else (if 4 ≤ v2 then (some (0, M)) else (if 0 ≤ v2 ∧ v2 < 4 then ((f_X0_takeIn 318 (M 327 v2.toNat) M).bind fun r4 => (f_X0_settle 318 r4.2).bind fun r5 => f_X9_takeRow_16 n v1 (sd_w (v2 + 1)) r5.2) else none))
set_option maxRecDepth 4000 in
theorem t_X9_takeRow_16 {X : Nat → List sd_V → List sd_E → sd_A → Prop} {d : Nat} (hd : 5 ≤ d) : ∀ (n : Nat) (v1 : Int) (v2 : Int) (M : sd_M) (Rr : Int × sd_M), f_X9_takeRow_16 n v1 v2 M = some Rr → sd_B X d sd_q_X9_takeRow 16 [(0, .inr (.inr (some (0)))), (1, .inl (v1)), (2, .inl (v2))] [] M (none, sd_rp Rr.2, 0, 0) := by
  intro n
  induction n with
  | zero => intro v1 v2 M Rr h; cases h
  | succ n ih =>
    intro v1 v2 M Rr h
    rw [f_X9_takeRow_16] at h
    refine sd_b_go 2 (pc2 := 18) (lv2 := [(0, .inr (.inr (some (0)))), (1, .inl (v1)), (2, .inl (v2))]) (st2 := [.inl (v1), .inl (v2)]) rfl ?_
    by_cases c1 : v1 ≤ v2
    · rw [if_pos c1] at h
      refine sd_b_ct (c := .ge) (tgt := 60) rfl (decide_eq_true c1) (by decide) ?_
      cases h
      exact sd_b_rt rfl rfl rfl
    · rw [if_neg c1] at h
      refine sd_b_cf (c := .ge) rfl (decide_eq_false c1) (by decide) ?_
      refine sd_b_go 2 (pc2 := 23) (lv2 := [(0, .inr (.inr (some (0)))), (1, .inl (v1)), (2, .inl (v2))]) (st2 := [.inl (4), .inl (v2)]) rfl ?_
      by_cases c2 : 4 ≤ v2
      · rw [if_pos c2] at h
        refine sd_b_ct (c := .ge) (tgt := 60) rfl (decide_eq_true c2) (by decide) ?_
        cases h
        exact sd_b_rt rfl rfl rfl
      · rw [if_neg c2] at h
        refine sd_b_cf (c := .ge) rfl (decide_eq_false c2) (by decide) ?_
        refine sd_b_go 1 (pc2 := 27) (lv2 := [(0, .inr (.inr (some (0)))), (1, .inl (v1)), (2, .inl (v2))]) (st2 := [.inr (.inr (some (0)))]) rfl ?_
        refine sd_b_gr (k := 12) sd_o_0 rfl rfl rfl ?_
        refine sd_b_go 1 (pc2 := 31) (lv2 := [(0, .inr (.inr (some (0)))), (1, .inl (v1)), (2, .inl (v2))]) (st2 := [.inr (.inr (some (0))), .inr (.inr (some (318)))]) rfl ?_
        refine sd_b_gr (k := 14) sd_o_0 rfl rfl rfl ?_
        refine sd_b_go 1 (pc2 := 35) (lv2 := [(0, .inr (.inr (some (0)))), (1, .inl (v1)), (2, .inl (v2))]) (st2 := [.inl (v2), .inr (.inr (some (327))), .inr (.inr (some (318)))]) rfl ?_
        obtain ⟨g3, h⟩ := sd_if h
        refine sd_b_ai (sd_oa sd_o_0 (by decide) (off := 327) (List.mem_of_getElem? (i := 2) rfl)) g3 rfl ?_
        obtain ⟨r4, e4, h⟩ := sd_bnd h
        refine sd_b_call [.inr (.inr (some (318))), .inl (M 327 v2.toNat)] [] rfl rfl sd_i_X0_takeIn rfl rfl (Nat.le_of_ble_eq_true rfl) (sd_rc_v sd_o_318) (m_X0_takeIn (by omega) sd_o_318 e4) ?_
        refine sd_b_go 1 (pc2 := 40) (lv2 := [(0, .inr (.inr (some (0)))), (1, .inl (v1)), (2, .inl (v2))]) (st2 := [.inr (.inr (some (0)))]) rfl ?_
        refine sd_b_gr (k := 12) sd_o_0 rfl rfl rfl ?_
        refine sd_b_go 1 (pc2 := 44) (lv2 := [(0, .inr (.inr (some (0)))), (1, .inl (v1)), (2, .inl (v2))]) (st2 := [.inr (.inr (some (0))), .inr (.inr (some (318)))]) rfl ?_
        refine sd_b_gr (k := 5) sd_o_0 rfl rfl rfl ?_
        refine sd_b_gr (k := 0) sd_o_58 rfl rfl rfl ?_
        obtain ⟨r5, e5, h⟩ := sd_bnd h
        refine sd_b_call [.inr (.inr (some (318))), .inr (.inr (some (59)))] [] rfl rfl sd_i_X0_settle rfl rfl (Nat.le_of_ble_eq_true rfl) (sd_rc_v sd_o_318) (m_X0_settle (by omega) sd_o_318 e5) ?_
        refine sd_b_go 3 (pc2 := 16) (lv2 := [(2, .inl (sd_w (v2 + 1))), (0, .inr (.inr (some (0)))), (1, .inl (v1))]) (st2 := []) rfl ?_
        refine sd_b_wk [(0, .inr (.inr (some (0)))), (1, .inl (v1)), (2, .inl (sd_w (v2 + 1)))] (List.forall_mem_cons.mpr ⟨rfl, (List.forall_mem_cons.mpr ⟨rfl, (List.forall_mem_cons.mpr ⟨rfl, (fun _ h0 => absurd h0 List.not_mem_nil)⟩)⟩)⟩) ?_
        exact ih v1 (sd_w (v2 + 1)) r5.2 _ h
def f_X9_takeRow (p1 : Int) (M : sd_M) : Option (Int × sd_M) := (f_X0_copyFrom 318 66 M).bind fun r1 => f_X9_takeRow_16 4000 p1 0 r1.2
set_option maxRecDepth 4000 in
theorem t_X9_takeRow {X : Nat → List sd_V → List sd_E → sd_A → Prop} {d : Nat} (hd : 5 ≤ d) (p1 : Int) (M : sd_M) (Rr : Int × sd_M) (h : f_X9_takeRow p1 M = some Rr) : sd_B X d sd_q_X9_takeRow 0 [(0, .inr (.inr (some (0)))), (1, .inl (p1))] [] M (none, sd_rp Rr.2, 0, 0) := by
  unfold f_X9_takeRow at h
  refine sd_b_go 1 (pc2 := 1) (lv2 := [(0, .inr (.inr (some (0)))), (1, .inl (p1))]) (st2 := [.inr (.inr (some (0)))]) rfl ?_
  refine sd_b_gr (k := 12) sd_o_0 rfl rfl rfl ?_
  refine sd_b_go 1 (pc2 := 5) (lv2 := [(0, .inr (.inr (some (0)))), (1, .inl (p1))]) (st2 := [.inr (.inr (some (0))), .inr (.inr (some (318)))]) rfl ?_
  refine sd_b_gr (k := 5) sd_o_0 rfl rfl rfl ?_
  refine sd_b_gr (k := 1) sd_o_58 rfl rfl rfl ?_
  obtain ⟨r1, e1, h⟩ := sd_bnd h
  refine sd_b_call [.inr (.inr (some (318))), .inr (.inr (some (66)))] [] rfl rfl sd_i_X0_copyFrom rfl rfl (Nat.le_of_ble_eq_true rfl) (sd_rc_v sd_o_318) (m_X0_copyFrom (by omega) sd_o_318 sd_o_66 e1) ?_
  refine sd_b_go 2 (pc2 := 16) (lv2 := [(2, .inl (0)), (0, .inr (.inr (some (0)))), (1, .inl (p1))]) (st2 := []) rfl ?_
  refine sd_b_wk [(0, .inr (.inr (some (0)))), (1, .inl (p1)), (2, .inl (0))] (List.forall_mem_cons.mpr ⟨rfl, (List.forall_mem_cons.mpr ⟨rfl, (List.forall_mem_cons.mpr ⟨rfl, (fun _ h0 => absurd h0 List.not_mem_nil)⟩)⟩)⟩) ?_
  exact t_X9_takeRow_16 hd 4000 p1 0 r1.2 _ h
theorem m_X9_takeRow {X : Nat → List sd_V → List sd_E → sd_A → Prop} {d : Nat} (hd : 6 ≤ d) {p1 : Int} {M : sd_M} {Rr : Int × sd_M} (h : f_X9_takeRow p1 M = some Rr) : sd_Cal X d 102 [.inr (.inr (some (0))), .inl (p1)] (sd_rp M) (none, sd_rp Rr.2, 0, 0) := by
  obtain ⟨d, rfl⟩ : ∃ d2, d = d2 + 1 := ⟨d - 1, by omega⟩
  exact sd_cal_of sd_i_X9_takeRow (Nat.le_of_ble_eq_true rfl) (t_X9_takeRow (by omega) p1 M Rr h)
-- X9_layGains
def sd_q_X9_layGains : sd_MI := (yX9_layGains, cX9_layGains, 5, none, 9, 2, sd_t_X9_layGains)
set_option maxRecDepth 4000 in
theorem sd_i_X9_layGains : sd_mL[118]? = some sd_q_X9_layGains := rfl
def f_X9_layGains_10 (k182 : Int → Int → Int → sd_M → Option (Int × sd_M)) : Nat → Int → Int → Int → Int → sd_M → Option (Int × sd_M)
  | 0, _, _, _, _, _ => none
  | n + 1, v1, v2, v3, v4, M => if 3 ≤ v4 then (k182 v1 v2 v3 M) else ((f_X0_copyFrom 318 66 M).bind fun r2 => if 0 ≤ v1 ∧ v1 < 9 then ((f_X0_rewrite 318 v1 (if (sd_w (((r2.2) 67 v1.toNat) * (sd_w (v3 + 1)))) < 999 then (sd_w (((r2.2) 67 v1.toNat) * (sd_w (v3 + 1)))) else 999) r2.2).bind fun r4 => if 0 ≤ v2 ∧ v2 < 9 then ((f_X0_rewrite 318 v2 (if (sd_w (((r4.2) 67 v2.toNat) * (sd_w (v4 + 1)))) < 999 then (sd_w (((r4.2) 67 v2.toNat) * (sd_w (v4 + 1)))) else 999) r4.2).bind fun r6 => (f_X0_settle 318 r6.2).bind fun r7 => if 0 ≤ v1 ∧ v1 < 9 then (if 0 ≤ v1 ∧ v1 < 9 then (if 0 ≤ (sd_w (2 * (sd_w ((sd_w (v3 * 3)) + v4)))) ∧ (sd_w (2 * (sd_w ((sd_w (v3 * 3)) + v4)))) < 18 then (if 0 ≤ v2 ∧ v2 < 9 then (if 0 ≤ v2 ∧ v2 < 9 then (if 0 ≤ (sd_w ((sd_w (2 * (sd_w ((sd_w (v3 * 3)) + v4)))) + 1)) ∧ (sd_w ((sd_w (2 * (sd_w ((sd_w (v3 * 3)) + v4)))) + 1)) < 18 then (f_X9_layGains_10 k182 n v1 v2 v3 (sd_w (v4 + 1)) (sd_s (sd_s r7.2 330 (sd_w (2 * (sd_w ((sd_w (v3 * 3)) + v4)))).toNat (sd_w ((sd_w (3 * ((r7.2) 322 v1.toNat))) - ((r7.2) 319 v1.toNat)))) 330 (sd_w ((sd_w (2 * (sd_w ((sd_w (v3 * 3)) + v4)))) + 1)).toNat (sd_w ((sd_w (3 * ((sd_s r7.2 330 (sd_w (2 * (sd_w ((sd_w (v3 * 3)) + v4)))).toNat (sd_w ((sd_w (3 * ((r7.2) 322 v1.toNat))) - ((r7.2) 319 v1.toNat)))) 322 v2.toNat))) - ((sd_s r7.2 330 (sd_w (2 * (sd_w ((sd_w (v3 * 3)) + v4)))).toNat (sd_w ((sd_w (3 * ((r7.2) 322 v1.toNat))) - ((r7.2) 319 v1.toNat)))) 319 v2.toNat))))) else none) else none) else none) else none) else none) else none) else none) else none)
set_option maxRecDepth 4000 in
theorem t_X9_layGains_10 {X : Nat → List sd_V → List sd_E → sd_A → Prop} {d : Nat} (hd : 5 ≤ d) (k182 : Int → Int → Int → sd_M → Option (Int × sd_M)) (hk182 : ∀ (v1 : Int) (v2 : Int) (v3 : Int) (M : sd_M) (Rr : Int × sd_M), k182 v1 v2 v3 M = some Rr → sd_B X d sd_q_X9_layGains 182 [(0, .inr (.inr (some (0)))), (1, .inl (v1)), (2, .inl (v2)), (3, .inl (v3))] [] M (none, sd_rp Rr.2, 0, 0)) : ∀ (n : Nat) (v1 : Int) (v2 : Int) (v3 : Int) (v4 : Int) (M : sd_M) (Rr : Int × sd_M), f_X9_layGains_10 k182 n v1 v2 v3 v4 M = some Rr → sd_B X d sd_q_X9_layGains 10 [(0, .inr (.inr (some (0)))), (1, .inl (v1)), (2, .inl (v2)), (3, .inl (v3)), (4, .inl (v4))] [] M (none, sd_rp Rr.2, 0, 0) := by
  intro n
  induction n with
  | zero => intro v1 v2 v3 v4 M Rr h; cases h
  | succ n ih =>
    intro v1 v2 v3 v4 M Rr h
    rw [f_X9_layGains_10] at h
    refine sd_b_go 2 (pc2 := 13) (lv2 := [(0, .inr (.inr (some (0)))), (1, .inl (v1)), (2, .inl (v2)), (3, .inl (v3)), (4, .inl (v4))]) (st2 := [.inl (3), .inl (v4)]) rfl ?_
    by_cases c1 : 3 ≤ v4
    · rw [if_pos c1] at h
      refine sd_b_ct (c := .ge) (tgt := 182) rfl (decide_eq_true c1) (by decide) ?_
      refine sd_b_wk [(0, .inr (.inr (some (0)))), (1, .inl (v1)), (2, .inl (v2)), (3, .inl (v3))] (List.forall_mem_cons.mpr ⟨rfl, (List.forall_mem_cons.mpr ⟨rfl, (List.forall_mem_cons.mpr ⟨rfl, (List.forall_mem_cons.mpr ⟨rfl, (fun _ h0 => absurd h0 List.not_mem_nil)⟩)⟩)⟩)⟩) ?_
      exact hk182 v1 v2 v3 M _ h
    · rw [if_neg c1] at h
      refine sd_b_cf (c := .ge) rfl (decide_eq_false c1) (by decide) ?_
      refine sd_b_go 1 (pc2 := 17) (lv2 := [(0, .inr (.inr (some (0)))), (1, .inl (v1)), (2, .inl (v2)), (3, .inl (v3)), (4, .inl (v4))]) (st2 := [.inr (.inr (some (0)))]) rfl ?_
      refine sd_b_gr (k := 12) sd_o_0 rfl rfl rfl ?_
      refine sd_b_go 1 (pc2 := 21) (lv2 := [(0, .inr (.inr (some (0)))), (1, .inl (v1)), (2, .inl (v2)), (3, .inl (v3)), (4, .inl (v4))]) (st2 := [.inr (.inr (some (0))), .inr (.inr (some (318)))]) rfl ?_
      refine sd_b_gr (k := 5) sd_o_0 rfl rfl rfl ?_
      refine sd_b_gr (k := 1) sd_o_58 rfl rfl rfl ?_
      obtain ⟨r2, e2, h⟩ := sd_bnd h
      refine sd_b_call [.inr (.inr (some (318))), .inr (.inr (some (66)))] [] rfl rfl sd_i_X0_copyFrom rfl rfl (Nat.le_of_ble_eq_true rfl) (sd_rc_v sd_o_318) (m_X0_copyFrom (by omega) sd_o_318 sd_o_66 e2) ?_
      refine sd_b_go 1 (pc2 := 31) (lv2 := [(0, .inr (.inr (some (0)))), (1, .inl (v1)), (2, .inl (v2)), (3, .inl (v3)), (4, .inl (v4))]) (st2 := [.inr (.inr (some (0)))]) rfl ?_
      refine sd_b_gr (k := 12) sd_o_0 rfl rfl rfl ?_
      refine sd_b_go 3 (pc2 := 39) (lv2 := [(0, .inr (.inr (some (0)))), (1, .inl (v1)), (2, .inl (v2)), (3, .inl (v3)), (4, .inl (v4))]) (st2 := [.inr (.inr (some (0))), .inl (999), .inl (v1), .inr (.inr (some (318)))]) rfl ?_
      refine sd_b_gr (k := 5) sd_o_0 rfl rfl rfl ?_
      refine sd_b_gr (k := 1) sd_o_58 rfl rfl rfl ?_
      refine sd_b_gr (k := 5) sd_o_66 rfl rfl rfl ?_
      refine sd_b_go 1 (pc2 := 49) (lv2 := [(0, .inr (.inr (some (0)))), (1, .inl (v1)), (2, .inl (v2)), (3, .inl (v3)), (4, .inl (v4))]) (st2 := [.inl (v1), .inr (.inr (some (67))), .inl (999), .inl (v1), .inr (.inr (some (318)))]) rfl ?_
      obtain ⟨g3, h⟩ := sd_if h
      refine sd_b_ai (sd_oa sd_o_66 (by decide) (off := 1) (List.mem_of_getElem? (i := 0) rfl)) g3 rfl ?_
      refine sd_b_go 4 (pc2 := 54) (lv2 := [(0, .inr (.inr (some (0)))), (1, .inl (v1)), (2, .inl (v2)), (3, .inl (v3)), (4, .inl (v4))]) (st2 := [.inl (sd_w (((r2.2) 67 v1.toNat) * (sd_w (v3 + 1)))), .inl (999), .inl (v1), .inr (.inr (some (318)))]) rfl ?_
      refine sd_b_go 1 (pc2 := 57) (lv2 := [(0, .inr (.inr (some (0)))), (1, .inl (v1)), (2, .inl (v2)), (3, .inl (v3)), (4, .inl (v4))]) (st2 := [.inl (if (sd_w (((r2.2) 67 v1.toNat) * (sd_w (v3 + 1)))) < 999 then (sd_w (((r2.2) 67 v1.toNat) * (sd_w (v3 + 1)))) else 999), .inl (v1), .inr (.inr (some (318)))]) rfl ?_
      obtain ⟨r4, e4, h⟩ := sd_bnd h
      refine sd_b_call [.inr (.inr (some (318))), .inl (v1), .inl (if (sd_w (((r2.2) 67 v1.toNat) * (sd_w (v3 + 1)))) < 999 then (sd_w (((r2.2) 67 v1.toNat) * (sd_w (v3 + 1)))) else 999)] [] rfl rfl sd_i_X0_rewrite rfl rfl (Nat.le_of_ble_eq_true rfl) (sd_rc_v sd_o_318) (m_X0_rewrite (by omega) sd_o_318 e4) ?_
      refine sd_b_go 1 (pc2 := 61) (lv2 := [(0, .inr (.inr (some (0)))), (1, .inl (v1)), (2, .inl (v2)), (3, .inl (v3)), (4, .inl (v4))]) (st2 := [.inr (.inr (some (0)))]) rfl ?_
      refine sd_b_gr (k := 12) sd_o_0 rfl rfl rfl ?_
      refine sd_b_go 3 (pc2 := 69) (lv2 := [(0, .inr (.inr (some (0)))), (1, .inl (v1)), (2, .inl (v2)), (3, .inl (v3)), (4, .inl (v4))]) (st2 := [.inr (.inr (some (0))), .inl (999), .inl (v2), .inr (.inr (some (318)))]) rfl ?_
      refine sd_b_gr (k := 5) sd_o_0 rfl rfl rfl ?_
      refine sd_b_gr (k := 1) sd_o_58 rfl rfl rfl ?_
      refine sd_b_gr (k := 5) sd_o_66 rfl rfl rfl ?_
      refine sd_b_go 1 (pc2 := 79) (lv2 := [(0, .inr (.inr (some (0)))), (1, .inl (v1)), (2, .inl (v2)), (3, .inl (v3)), (4, .inl (v4))]) (st2 := [.inl (v2), .inr (.inr (some (67))), .inl (999), .inl (v2), .inr (.inr (some (318)))]) rfl ?_
      obtain ⟨g5, h⟩ := sd_if h
      refine sd_b_ai (sd_oa sd_o_66 (by decide) (off := 1) (List.mem_of_getElem? (i := 0) rfl)) g5 rfl ?_
      refine sd_b_go 4 (pc2 := 85) (lv2 := [(0, .inr (.inr (some (0)))), (1, .inl (v1)), (2, .inl (v2)), (3, .inl (v3)), (4, .inl (v4))]) (st2 := [.inl (sd_w (((r4.2) 67 v2.toNat) * (sd_w (v4 + 1)))), .inl (999), .inl (v2), .inr (.inr (some (318)))]) rfl ?_
      refine sd_b_go 1 (pc2 := 88) (lv2 := [(0, .inr (.inr (some (0)))), (1, .inl (v1)), (2, .inl (v2)), (3, .inl (v3)), (4, .inl (v4))]) (st2 := [.inl (if (sd_w (((r4.2) 67 v2.toNat) * (sd_w (v4 + 1)))) < 999 then (sd_w (((r4.2) 67 v2.toNat) * (sd_w (v4 + 1)))) else 999), .inl (v2), .inr (.inr (some (318)))]) rfl ?_
      obtain ⟨r6, e6, h⟩ := sd_bnd h
      refine sd_b_call [.inr (.inr (some (318))), .inl (v2), .inl (if (sd_w (((r4.2) 67 v2.toNat) * (sd_w (v4 + 1)))) < 999 then (sd_w (((r4.2) 67 v2.toNat) * (sd_w (v4 + 1)))) else 999)] [] rfl rfl sd_i_X0_rewrite rfl rfl (Nat.le_of_ble_eq_true rfl) (sd_rc_v sd_o_318) (m_X0_rewrite (by omega) sd_o_318 e6) ?_
      refine sd_b_go 1 (pc2 := 92) (lv2 := [(0, .inr (.inr (some (0)))), (1, .inl (v1)), (2, .inl (v2)), (3, .inl (v3)), (4, .inl (v4))]) (st2 := [.inr (.inr (some (0)))]) rfl ?_
      refine sd_b_gr (k := 12) sd_o_0 rfl rfl rfl ?_
      refine sd_b_go 1 (pc2 := 96) (lv2 := [(0, .inr (.inr (some (0)))), (1, .inl (v1)), (2, .inl (v2)), (3, .inl (v3)), (4, .inl (v4))]) (st2 := [.inr (.inr (some (0))), .inr (.inr (some (318)))]) rfl ?_
      refine sd_b_gr (k := 5) sd_o_0 rfl rfl rfl ?_
      refine sd_b_gr (k := 0) sd_o_58 rfl rfl rfl ?_
      obtain ⟨r7, e7, h⟩ := sd_bnd h
      refine sd_b_call [.inr (.inr (some (318))), .inr (.inr (some (59)))] [] rfl rfl sd_i_X0_settle rfl rfl (Nat.le_of_ble_eq_true rfl) (sd_rc_v sd_o_318) (m_X0_settle (by omega) sd_o_318 e7) ?_
      refine sd_b_go 2 (pc2 := 107) (lv2 := [(0, .inr (.inr (some (0)))), (1, .inl (v1)), (2, .inl (v2)), (3, .inl (v3)), (4, .inl (v4))]) (st2 := [.inr (.inr (some (0)))]) rfl ?_
      refine sd_b_gr (k := 17) sd_o_0 rfl rfl rfl ?_
      refine sd_b_go 9 (pc2 := 120) (lv2 := [(0, .inr (.inr (some (0)))), (1, .inl (v1)), (2, .inl (v2)), (3, .inl (v3)), (4, .inl (v4))]) (st2 := [.inr (.inr (some (0))), .inl (3), .inl (sd_w (2 * (sd_w ((sd_w (v3 * 3)) + v4)))), .inr (.inr (some (330)))]) rfl ?_
      refine sd_b_gr (k := 12) sd_o_0 rfl rfl rfl ?_
      refine sd_b_gr (k := 8) sd_o_318 rfl rfl rfl ?_
      refine sd_b_go 1 (pc2 := 127) (lv2 := [(0, .inr (.inr (some (0)))), (1, .inl (v1)), (2, .inl (v2)), (3, .inl (v3)), (4, .inl (v4))]) (st2 := [.inl (v1), .inr (.inr (some (322))), .inl (3), .inl (sd_w (2 * (sd_w ((sd_w (v3 * 3)) + v4)))), .inr (.inr (some (330)))]) rfl ?_
      obtain ⟨g8, h⟩ := sd_if h
      refine sd_b_ai (sd_oa sd_o_318 (by decide) (off := 4) (List.mem_of_getElem? (i := 3) rfl)) g8 rfl ?_
      refine sd_b_go 2 (pc2 := 130) (lv2 := [(0, .inr (.inr (some (0)))), (1, .inl (v1)), (2, .inl (v2)), (3, .inl (v3)), (4, .inl (v4))]) (st2 := [.inr (.inr (some (0))), .inl (sd_w (3 * ((r7.2) 322 v1.toNat))), .inl (sd_w (2 * (sd_w ((sd_w (v3 * 3)) + v4)))), .inr (.inr (some (330)))]) rfl ?_
      refine sd_b_gr (k := 12) sd_o_0 rfl rfl rfl ?_
      refine sd_b_gr (k := 5) sd_o_318 rfl rfl rfl ?_
      refine sd_b_go 1 (pc2 := 137) (lv2 := [(0, .inr (.inr (some (0)))), (1, .inl (v1)), (2, .inl (v2)), (3, .inl (v3)), (4, .inl (v4))]) (st2 := [.inl (v1), .inr (.inr (some (319))), .inl (sd_w (3 * ((r7.2) 322 v1.toNat))), .inl (sd_w (2 * (sd_w ((sd_w (v3 * 3)) + v4)))), .inr (.inr (some (330)))]) rfl ?_
      obtain ⟨g9, h⟩ := sd_if h
      refine sd_b_ai (sd_oa sd_o_318 (by decide) (off := 1) (List.mem_of_getElem? (i := 0) rfl)) g9 rfl ?_
      refine sd_b_go 1 (pc2 := 139) (lv2 := [(0, .inr (.inr (some (0)))), (1, .inl (v1)), (2, .inl (v2)), (3, .inl (v3)), (4, .inl (v4))]) (st2 := [.inl (sd_w ((sd_w (3 * ((r7.2) 322 v1.toNat))) - ((r7.2) 319 v1.toNat))), .inl (sd_w (2 * (sd_w ((sd_w (v3 * 3)) + v4)))), .inr (.inr (some (330)))]) rfl ?_
      obtain ⟨g10, h⟩ := sd_if h
      refine sd_b_si (sd_oa sd_o_0 (by decide) (off := 330) (List.mem_of_getElem? (i := 5) rfl)) g10 rfl ?_
      refine sd_b_go 1 (pc2 := 141) (lv2 := [(0, .inr (.inr (some (0)))), (1, .inl (v1)), (2, .inl (v2)), (3, .inl (v3)), (4, .inl (v4))]) (st2 := [.inr (.inr (some (0)))]) rfl ?_
      refine sd_b_gr (k := 17) sd_o_0 rfl rfl rfl ?_
      refine sd_b_go 11 (pc2 := 156) (lv2 := [(0, .inr (.inr (some (0)))), (1, .inl (v1)), (2, .inl (v2)), (3, .inl (v3)), (4, .inl (v4))]) (st2 := [.inr (.inr (some (0))), .inl (3), .inl (sd_w ((sd_w (2 * (sd_w ((sd_w (v3 * 3)) + v4)))) + 1)), .inr (.inr (some (330)))]) rfl ?_
      refine sd_b_gr (k := 12) sd_o_0 rfl rfl rfl ?_
      refine sd_b_gr (k := 8) sd_o_318 rfl rfl rfl ?_
      refine sd_b_go 1 (pc2 := 163) (lv2 := [(0, .inr (.inr (some (0)))), (1, .inl (v1)), (2, .inl (v2)), (3, .inl (v3)), (4, .inl (v4))]) (st2 := [.inl (v2), .inr (.inr (some (322))), .inl (3), .inl (sd_w ((sd_w (2 * (sd_w ((sd_w (v3 * 3)) + v4)))) + 1)), .inr (.inr (some (330)))]) rfl ?_
      obtain ⟨g11, h⟩ := sd_if h
      refine sd_b_ai (sd_oa sd_o_318 (by decide) (off := 4) (List.mem_of_getElem? (i := 3) rfl)) g11 rfl ?_
      refine sd_b_go 2 (pc2 := 166) (lv2 := [(0, .inr (.inr (some (0)))), (1, .inl (v1)), (2, .inl (v2)), (3, .inl (v3)), (4, .inl (v4))]) (st2 := [.inr (.inr (some (0))), .inl (sd_w (3 * ((sd_s r7.2 330 (sd_w (2 * (sd_w ((sd_w (v3 * 3)) + v4)))).toNat (sd_w ((sd_w (3 * ((r7.2) 322 v1.toNat))) - ((r7.2) 319 v1.toNat)))) 322 v2.toNat))), .inl (sd_w ((sd_w (2 * (sd_w ((sd_w (v3 * 3)) + v4)))) + 1)), .inr (.inr (some (330)))]) rfl ?_
      refine sd_b_gr (k := 12) sd_o_0 rfl rfl rfl ?_
      refine sd_b_gr (k := 5) sd_o_318 rfl rfl rfl ?_
      refine sd_b_go 1 (pc2 := 173) (lv2 := [(0, .inr (.inr (some (0)))), (1, .inl (v1)), (2, .inl (v2)), (3, .inl (v3)), (4, .inl (v4))]) (st2 := [.inl (v2), .inr (.inr (some (319))), .inl (sd_w (3 * ((sd_s r7.2 330 (sd_w (2 * (sd_w ((sd_w (v3 * 3)) + v4)))).toNat (sd_w ((sd_w (3 * ((r7.2) 322 v1.toNat))) - ((r7.2) 319 v1.toNat)))) 322 v2.toNat))), .inl (sd_w ((sd_w (2 * (sd_w ((sd_w (v3 * 3)) + v4)))) + 1)), .inr (.inr (some (330)))]) rfl ?_
      obtain ⟨g12, h⟩ := sd_if h
      refine sd_b_ai (sd_oa sd_o_318 (by decide) (off := 1) (List.mem_of_getElem? (i := 0) rfl)) g12 rfl ?_
      refine sd_b_go 1 (pc2 := 175) (lv2 := [(0, .inr (.inr (some (0)))), (1, .inl (v1)), (2, .inl (v2)), (3, .inl (v3)), (4, .inl (v4))]) (st2 := [.inl (sd_w ((sd_w (3 * ((sd_s r7.2 330 (sd_w (2 * (sd_w ((sd_w (v3 * 3)) + v4)))).toNat (sd_w ((sd_w (3 * ((r7.2) 322 v1.toNat))) - ((r7.2) 319 v1.toNat)))) 322 v2.toNat))) - ((sd_s r7.2 330 (sd_w (2 * (sd_w ((sd_w (v3 * 3)) + v4)))).toNat (sd_w ((sd_w (3 * ((r7.2) 322 v1.toNat))) - ((r7.2) 319 v1.toNat)))) 319 v2.toNat))), .inl (sd_w ((sd_w (2 * (sd_w ((sd_w (v3 * 3)) + v4)))) + 1)), .inr (.inr (some (330)))]) rfl ?_
      obtain ⟨g13, h⟩ := sd_if h
      refine sd_b_si (sd_oa sd_o_0 (by decide) (off := 330) (List.mem_of_getElem? (i := 5) rfl)) g13 rfl ?_
      refine sd_b_go 2 (pc2 := 10) (lv2 := [(4, .inl (sd_w (v4 + 1))), (0, .inr (.inr (some (0)))), (1, .inl (v1)), (2, .inl (v2)), (3, .inl (v3))]) (st2 := []) rfl ?_
      refine sd_b_wk [(0, .inr (.inr (some (0)))), (1, .inl (v1)), (2, .inl (v2)), (3, .inl (v3)), (4, .inl (sd_w (v4 + 1)))] (List.forall_mem_cons.mpr ⟨rfl, (List.forall_mem_cons.mpr ⟨rfl, (List.forall_mem_cons.mpr ⟨rfl, (List.forall_mem_cons.mpr ⟨rfl, (List.forall_mem_cons.mpr ⟨rfl, (fun _ h0 => absurd h0 List.not_mem_nil)⟩)⟩)⟩)⟩)⟩) ?_
      exact ih v1 v2 v3 (sd_w (v4 + 1)) (sd_s (sd_s r7.2 330 (sd_w (2 * (sd_w ((sd_w (v3 * 3)) + v4)))).toNat (sd_w ((sd_w (3 * ((r7.2) 322 v1.toNat))) - ((r7.2) 319 v1.toNat)))) 330 (sd_w ((sd_w (2 * (sd_w ((sd_w (v3 * 3)) + v4)))) + 1)).toNat (sd_w ((sd_w (3 * ((sd_s r7.2 330 (sd_w (2 * (sd_w ((sd_w (v3 * 3)) + v4)))).toNat (sd_w ((sd_w (3 * ((r7.2) 322 v1.toNat))) - ((r7.2) 319 v1.toNat)))) 322 v2.toNat))) - ((sd_s r7.2 330 (sd_w (2 * (sd_w ((sd_w (v3 * 3)) + v4)))).toNat (sd_w ((sd_w (3 * ((r7.2) 322 v1.toNat))) - ((r7.2) 319 v1.toNat)))) 319 v2.toNat)))) _ h
def f_X9_layGains_182 (k2 : Int → Int → Int → sd_M → Option (Int × sd_M)) (v1 : Int) (v2 : Int) (v3 : Int) (M : sd_M) : Option (Int × sd_M) := k2 v1 v2 (sd_w (v3 + 1)) M
set_option maxRecDepth 4000 in
theorem t_X9_layGains_182 {X : Nat → List sd_V → List sd_E → sd_A → Prop} {d : Nat} (hd : 5 ≤ d) (k2 : Int → Int → Int → sd_M → Option (Int × sd_M)) (hk2 : ∀ (v1 : Int) (v2 : Int) (v3 : Int) (M : sd_M) (Rr : Int × sd_M), k2 v1 v2 v3 M = some Rr → sd_B X d sd_q_X9_layGains 2 [(0, .inr (.inr (some (0)))), (1, .inl (v1)), (2, .inl (v2)), (3, .inl (v3))] [] M (none, sd_rp Rr.2, 0, 0)) (v1 : Int) (v2 : Int) (v3 : Int) (M : sd_M) (Rr : Int × sd_M) (h : f_X9_layGains_182 k2 v1 v2 v3 M = some Rr) : sd_B X d sd_q_X9_layGains 182 [(0, .inr (.inr (some (0)))), (1, .inl (v1)), (2, .inl (v2)), (3, .inl (v3))] [] M (none, sd_rp Rr.2, 0, 0) := by
  unfold f_X9_layGains_182 at h
  refine sd_b_go 2 (pc2 := 2) (lv2 := [(3, .inl (sd_w (v3 + 1))), (0, .inr (.inr (some (0)))), (1, .inl (v1)), (2, .inl (v2))]) (st2 := []) rfl ?_
  refine sd_b_wk [(0, .inr (.inr (some (0)))), (1, .inl (v1)), (2, .inl (v2)), (3, .inl (sd_w (v3 + 1)))] (List.forall_mem_cons.mpr ⟨rfl, (List.forall_mem_cons.mpr ⟨rfl, (List.forall_mem_cons.mpr ⟨rfl, (List.forall_mem_cons.mpr ⟨rfl, (fun _ h0 => absurd h0 List.not_mem_nil)⟩)⟩)⟩)⟩) ?_
  exact hk2 v1 v2 (sd_w (v3 + 1)) M _ h
def f_X9_layGains_2 : Nat → Int → Int → Int → sd_M → Option (Int × sd_M)
  | 0, _, _, _, _ => none
  | n + 1, v1, v2, v3, M => if 3 ≤ v3 then (some (0, M)) else (f_X9_layGains_10 (f_X9_layGains_182 (f_X9_layGains_2 n)) 4000 v1 v2 v3 0 M)
set_option maxRecDepth 4000 in
theorem t_X9_layGains_2 {X : Nat → List sd_V → List sd_E → sd_A → Prop} {d : Nat} (hd : 5 ≤ d) : ∀ (n : Nat) (v1 : Int) (v2 : Int) (v3 : Int) (M : sd_M) (Rr : Int × sd_M), f_X9_layGains_2 n v1 v2 v3 M = some Rr → sd_B X d sd_q_X9_layGains 2 [(0, .inr (.inr (some (0)))), (1, .inl (v1)), (2, .inl (v2)), (3, .inl (v3))] [] M (none, sd_rp Rr.2, 0, 0) := by
  intro n
  induction n with
  | zero => intro v1 v2 v3 M Rr h; cases h
  | succ n ih =>
    intro v1 v2 v3 M Rr h
    rw [f_X9_layGains_2] at h
    refine sd_b_go 2 (pc2 := 4) (lv2 := [(0, .inr (.inr (some (0)))), (1, .inl (v1)), (2, .inl (v2)), (3, .inl (v3))]) (st2 := [.inl (3), .inl (v3)]) rfl ?_
    by_cases c1 : 3 ≤ v3
    · rw [if_pos c1] at h
      refine sd_b_ct (c := .ge) (tgt := 188) rfl (decide_eq_true c1) (by decide) ?_
      cases h
      exact sd_b_rt rfl rfl rfl
    · rw [if_neg c1] at h
      refine sd_b_cf (c := .ge) rfl (decide_eq_false c1) (by decide) ?_
      refine sd_b_go 2 (pc2 := 10) (lv2 := [(4, .inl (0)), (0, .inr (.inr (some (0)))), (1, .inl (v1)), (2, .inl (v2)), (3, .inl (v3))]) (st2 := []) rfl ?_
      refine sd_b_wk [(0, .inr (.inr (some (0)))), (1, .inl (v1)), (2, .inl (v2)), (3, .inl (v3)), (4, .inl (0))] (List.forall_mem_cons.mpr ⟨rfl, (List.forall_mem_cons.mpr ⟨rfl, (List.forall_mem_cons.mpr ⟨rfl, (List.forall_mem_cons.mpr ⟨rfl, (List.forall_mem_cons.mpr ⟨rfl, (fun _ h0 => absurd h0 List.not_mem_nil)⟩)⟩)⟩)⟩)⟩) ?_
      exact t_X9_layGains_10 hd (f_X9_layGains_182 (f_X9_layGains_2 n)) (t_X9_layGains_182 hd (f_X9_layGains_2 n) ih) 4000 v1 v2 v3 0 M _ h
def f_X9_layGains (p1 : Int) (p2 : Int) (M : sd_M) : Option (Int × sd_M) := f_X9_layGains_2 4000 p1 p2 0 M
set_option maxRecDepth 4000 in
theorem t_X9_layGains {X : Nat → List sd_V → List sd_E → sd_A → Prop} {d : Nat} (hd : 5 ≤ d) (p1 : Int) (p2 : Int) (M : sd_M) (Rr : Int × sd_M) (h : f_X9_layGains p1 p2 M = some Rr) : sd_B X d sd_q_X9_layGains 0 [(0, .inr (.inr (some (0)))), (1, .inl (p1)), (2, .inl (p2))] [] M (none, sd_rp Rr.2, 0, 0) := by
  unfold f_X9_layGains at h
  refine sd_b_go 2 (pc2 := 2) (lv2 := [(3, .inl (0)), (0, .inr (.inr (some (0)))), (1, .inl (p1)), (2, .inl (p2))]) (st2 := []) rfl ?_
  refine sd_b_wk [(0, .inr (.inr (some (0)))), (1, .inl (p1)), (2, .inl (p2)), (3, .inl (0))] (List.forall_mem_cons.mpr ⟨rfl, (List.forall_mem_cons.mpr ⟨rfl, (List.forall_mem_cons.mpr ⟨rfl, (List.forall_mem_cons.mpr ⟨rfl, (fun _ h0 => absurd h0 List.not_mem_nil)⟩)⟩)⟩)⟩) ?_
  exact t_X9_layGains_2 hd 4000 p1 p2 0 M _ h
theorem m_X9_layGains {X : Nat → List sd_V → List sd_E → sd_A → Prop} {d : Nat} (hd : 6 ≤ d) {p1 : Int} {p2 : Int} {M : sd_M} {Rr : Int × sd_M} (h : f_X9_layGains p1 p2 M = some Rr) : sd_Cal X d 118 [.inr (.inr (some (0))), .inl (p1), .inl (p2)] (sd_rp M) (none, sd_rp Rr.2, 0, 0) := by
  obtain ⟨d, rfl⟩ : ∃ d2, d = d2 + 1 := ⟨d - 1, by omega⟩
  exact sd_cal_of sd_i_X9_layGains (Nat.le_of_ble_eq_true rfl) (t_X9_layGains (by omega) p1 p2 M Rr h)
-- X0_strike
def sd_q_X0_strike : sd_MI := (yX0_strike, cX0_strike, 4, (some .int), 0, 2, sd_t_X0_strike)
set_option maxRecDepth 4000 in
theorem sd_i_X0_strike : sd_mL[12]? = some sd_q_X0_strike := rfl
def f_X0_strike (this : Nat) (p1 : Int) (M : sd_M) : Option (Int × sd_M) := (f_X0_leave this p1 M).bind fun r1 => (f_X0_settle this r1.2).bind fun r2 => some (sd_w ((r2.2 this 4) - (M this 4)), r2.2)
set_option maxRecDepth 4000 in
theorem t_X0_strike {X : Nat → List sd_V → List sd_E → sd_A → Prop} {d : Nat} (hd : 5 ≤ d) (this : Nat) (h_this : sd_o this 0) (p1 : Int) (M : sd_M) (Rr : Int × sd_M) (h : f_X0_strike this p1 M = some Rr) : sd_B X d sd_q_X0_strike 0 [(0, .inr (.inr (some (this)))), (1, .inl (p1)), (2, .inr (.inr (some (59))))] [] M (some (.inl Rr.1), sd_rp Rr.2, 0, 0) := by
  unfold f_X0_strike at h
  refine sd_b_go 1 (pc2 := 1) (lv2 := [(0, .inr (.inr (some (this)))), (1, .inl (p1)), (2, .inr (.inr (some (59))))]) (st2 := [.inr (.inr (some (this)))]) rfl ?_
  refine sd_b_gi (k := 4) h_this rfl rfl rfl ?_
  refine sd_b_go 3 (pc2 := 7) (lv2 := [(3, .inl (M this 4)), (0, .inr (.inr (some (this)))), (1, .inl (p1)), (2, .inr (.inr (some (59))))]) (st2 := [.inl (p1), .inr (.inr (some (this)))]) rfl ?_
  obtain ⟨r1, e1, h⟩ := sd_bnd h
  refine sd_b_call [.inr (.inr (some (this))), .inl (p1)] [] rfl rfl sd_i_X0_leave rfl rfl (Nat.le_of_ble_eq_true rfl) (sd_rc_v h_this) (m_X0_leave (by omega) h_this e1) ?_
  refine sd_b_go 2 (pc2 := 12) (lv2 := [(3, .inl (M this 4)), (0, .inr (.inr (some (this)))), (1, .inl (p1)), (2, .inr (.inr (some (59))))]) (st2 := [.inr (.inr (some (59))), .inr (.inr (some (this)))]) rfl ?_
  obtain ⟨r2, e2, h⟩ := sd_bnd h
  refine sd_b_call [.inr (.inr (some (this))), .inr (.inr (some (59)))] [] rfl rfl sd_i_X0_settle rfl rfl (Nat.le_of_ble_eq_true rfl) (sd_rc_v h_this) (m_X0_settle (by omega) h_this e2) ?_
  refine sd_b_go 2 (pc2 := 17) (lv2 := [(3, .inl (M this 4)), (0, .inr (.inr (some (this)))), (1, .inl (p1)), (2, .inr (.inr (some (59))))]) (st2 := [.inr (.inr (some (this)))]) rfl ?_
  refine sd_b_gi (k := 4) h_this rfl rfl rfl ?_
  refine sd_b_go 2 (pc2 := 22) (lv2 := [(3, .inl (M this 4)), (0, .inr (.inr (some (this)))), (1, .inl (p1)), (2, .inr (.inr (some (59))))]) (st2 := [.inl (sd_w ((r2.2 this 4) - (M this 4)))]) rfl ?_
  cases h
  exact sd_b_rt rfl rfl rfl
theorem m_X0_strike {X : Nat → List sd_V → List sd_E → sd_A → Prop} {d : Nat} (hd : 6 ≤ d) {this : Nat} (h_this : sd_o this 0) {p1 : Int} {M : sd_M} {Rr : Int × sd_M} (h : f_X0_strike this p1 M = some Rr) : sd_Cal X d 12 [.inr (.inr (some (this))), .inl (p1), .inr (.inr (some (59)))] (sd_rp M) (some (.inl Rr.1), sd_rp Rr.2, 0, 0) := by
  obtain ⟨d, rfl⟩ : ∃ d2, d = d2 + 1 := ⟨d - 1, by omega⟩
  exact sd_cal_of sd_i_X0_strike (Nat.le_of_ble_eq_true rfl) (t_X0_strike (by omega) this h_this p1 M Rr h)
-- X1_pass
def sd_q_X1_pass : sd_MI := (yX1_pass, cX1_pass, 5, (some .int), 1, 3, sd_t_X1_pass)
set_option maxRecDepth 4000 in
theorem sd_i_X1_pass : sd_mL[21]? = some sd_q_X1_pass := rfl
def f_X1_pass_21 (book : Nat) (rl : Option Nat) (v4 : Int) (M : sd_M) : Option (Int × sd_M) := (f_X0_settle book M).bind fun r1 => some (v4, sd_s r1.2 book 1 (sd_w ((r1.2 book 1) + 1)))
set_option maxRecDepth 4000 in
theorem t_X1_pass_21 {X : Nat → List sd_V → List sd_E → sd_A → Prop} {d : Nat} (hd : 5 ≤ d) (book : Nat) (rl : Option Nat) (h_book : sd_o book 0) (h_rl : ∀ a, rl = some a → sd_o a 4) (v4 : Int) (M : sd_M) (Rr : Int × sd_M) (h : f_X1_pass_21 book rl v4 M = some Rr) : sd_B X d sd_q_X1_pass 21 [(1, .inr (.inr (some (book)))), (2, .inr (.inr (some (59)))), (4, .inl (v4))] [] M (some (.inl Rr.1), sd_rp Rr.2, 0, 0) := by
  unfold f_X1_pass_21 at h
  refine sd_b_go 2 (pc2 := 23) (lv2 := [(1, .inr (.inr (some (book)))), (2, .inr (.inr (some (59)))), (4, .inl (v4))]) (st2 := [.inr (.inr (some (59))), .inr (.inr (some (book)))]) rfl ?_
  obtain ⟨r1, e1, h⟩ := sd_bnd h
  refine sd_b_call [.inr (.inr (some (book))), .inr (.inr (some (59)))] [] rfl rfl sd_i_X0_settle rfl rfl (Nat.le_of_ble_eq_true rfl) (sd_rc_v h_book) (m_X0_settle (by omega) h_book e1) ?_
  refine sd_b_go 3 (pc2 := 29) (lv2 := [(1, .inr (.inr (some (book)))), (2, .inr (.inr (some (59)))), (4, .inl (v4))]) (st2 := [.inr (.inr (some (book))), .inr (.inr (some (book)))]) rfl ?_
  refine sd_b_gi (k := 1) h_book rfl rfl rfl ?_
  refine sd_b_go 2 (pc2 := 34) (lv2 := [(1, .inr (.inr (some (book)))), (2, .inr (.inr (some (59)))), (4, .inl (v4))]) (st2 := [.inl (sd_w ((r1.2 book 1) + 1)), .inr (.inr (some (book)))]) rfl ?_
  refine sd_b_pi (k := 1) h_book rfl rfl rfl rfl rfl ?_
  refine sd_b_go 1 (pc2 := 39) (lv2 := [(1, .inr (.inr (some (book)))), (2, .inr (.inr (some (59)))), (4, .inl (v4))]) (st2 := [.inl (v4)]) rfl ?_
  cases h
  exact sd_b_rt rfl rfl rfl
def f_X1_pass (book : Nat) (rl : Option Nat) (M : sd_M) : Option (Int × sd_M) := (f_X1_choose book rl M).bind fun r1 => if r1.1 = ((-1)) then (f_X1_pass_21 book rl r1.1 r1.2) else ((f_X0_takeIn book r1.1 r1.2).bind fun r3 => f_X1_pass_21 book rl r1.1 r3.2)
set_option maxRecDepth 4000 in
theorem t_X1_pass {X : Nat → List sd_V → List sd_E → sd_A → Prop} {d : Nat} (hd : 5 ≤ d) (book : Nat) (rl : Option Nat) (h_book : sd_o book 0) (h_rl : ∀ a, rl = some a → sd_o a 4) (M : sd_M) (Rr : Int × sd_M) (h : f_X1_pass book rl M = some Rr) : sd_B X d sd_q_X1_pass 0 [(0, .inr (.inr (some (316)))), (1, .inr (.inr (some (book)))), (2, .inr (.inr (some (59)))), (3, .inr (.inr rl))] [] M (some (.inl Rr.1), sd_rp Rr.2, 0, 0) := by
  unfold f_X1_pass at h
  refine sd_b_go 4 (pc2 := 4) (lv2 := [(0, .inr (.inr (some (316)))), (1, .inr (.inr (some (book)))), (2, .inr (.inr (some (59)))), (3, .inr (.inr rl))]) (st2 := [.inr (.inr rl), .inr (.inr (some (59))), .inr (.inr (some (book))), .inr (.inr (some (316)))]) rfl ?_
  obtain ⟨r1, e1, h⟩ := sd_bnd h
  refine sd_b_call [.inr (.inr (some (316))), .inr (.inr (some (book))), .inr (.inr (some (59))), .inr (.inr rl)] [] rfl rfl sd_i_X1_choose rfl rfl (Nat.le_of_ble_eq_true rfl) (sd_rc_v sd_o_316) (m_X1_choose (by omega) h_book h_rl e1) ?_
  refine sd_b_go 3 (pc2 := 12) (lv2 := [(4, .inl (r1.1)), (0, .inr (.inr (some (316)))), (1, .inr (.inr (some (book)))), (2, .inr (.inr (some (59)))), (3, .inr (.inr rl))]) (st2 := [.inl ((-1)), .inl (r1.1)]) rfl ?_
  by_cases c2 : r1.1 = ((-1))
  · rw [if_pos c2] at h
    refine sd_b_ct (c := .eq) (tgt := 21) rfl (decide_eq_true c2) (by decide) ?_
    refine sd_b_wk [(1, .inr (.inr (some (book)))), (2, .inr (.inr (some (59)))), (4, .inl (r1.1))] (List.forall_mem_cons.mpr ⟨rfl, (List.forall_mem_cons.mpr ⟨rfl, (List.forall_mem_cons.mpr ⟨rfl, (fun _ h0 => absurd h0 List.not_mem_nil)⟩)⟩)⟩) ?_
    exact t_X1_pass_21 hd book rl h_book h_rl r1.1 r1.2 _ h
  · rw [if_neg c2] at h
    refine sd_b_cf (c := .eq) rfl (decide_eq_false c2) (by decide) ?_
    refine sd_b_go 2 (pc2 := 18) (lv2 := [(4, .inl (r1.1)), (0, .inr (.inr (some (316)))), (1, .inr (.inr (some (book)))), (2, .inr (.inr (some (59)))), (3, .inr (.inr rl))]) (st2 := [.inl (r1.1), .inr (.inr (some (book)))]) rfl ?_
    obtain ⟨r3, e3, h⟩ := sd_bnd h
    refine sd_b_call [.inr (.inr (some (book))), .inl (r1.1)] [] rfl rfl sd_i_X0_takeIn rfl rfl (Nat.le_of_ble_eq_true rfl) (sd_rc_v h_book) (m_X0_takeIn (by omega) h_book e3) ?_
    refine sd_b_wk [(1, .inr (.inr (some (book)))), (2, .inr (.inr (some (59)))), (4, .inl (r1.1))] (List.forall_mem_cons.mpr ⟨rfl, (List.forall_mem_cons.mpr ⟨rfl, (List.forall_mem_cons.mpr ⟨rfl, (fun _ h0 => absurd h0 List.not_mem_nil)⟩)⟩)⟩) ?_
    exact t_X1_pass_21 hd book rl h_book h_rl r1.1 r3.2 _ h
theorem m_X1_pass {X : Nat → List sd_V → List sd_E → sd_A → Prop} {d : Nat} (hd : 6 ≤ d) {book : Nat} {rl : Option Nat} (h_book : sd_o book 0) (h_rl : ∀ a, rl = some a → sd_o a 4) {M : sd_M} {Rr : Int × sd_M} (h : f_X1_pass book rl M = some Rr) : sd_Cal X d 21 [.inr (.inr (some (316))), .inr (.inr (some (book))), .inr (.inr (some (59))), .inr (.inr rl)] (sd_rp M) (some (.inl Rr.1), sd_rp Rr.2, 0, 0) := by
  obtain ⟨d, rfl⟩ : ∃ d2, d = d2 + 1 := ⟨d - 1, by omega⟩
  exact sd_cal_of sd_i_X1_pass (Nat.le_of_ble_eq_true rfl) (t_X1_pass (by omega) book rl h_book h_rl M Rr h)
-- X5_reads
def sd_q_X5_reads : sd_MI := (yX5_reads, cX5_reads, 6, (some .boolean), 5, 2, sd_t_X5_reads)
set_option maxRecDepth 4000 in
theorem sd_i_X5_reads : sd_mL[41]? = some sd_q_X5_reads := rfl
def f_X5_reads_102 (k15 : Int → sd_M → Option (Int × sd_M)) (k31 : sd_M → Option (Int × sd_M)) (k43 : sd_M → Option (Int × sd_M)) (k131 : sd_M → Option (Int × sd_M)) (into : Nat) (v3 : Int) (v4 : Int) (v5 : Int) (M : sd_M) : Option (Int × sd_M) := (f_X4_addClause into v4 v5 M).bind fun r1 => (f_X7_kind r1.2).bind fun r2 => if r2.1 = 512 then (some (1, r2.2)) else ((f_X7_kind r2.2).bind fun r4 => if r4.1 = 59 then ((f_X7_step r4.2).bind fun r6 => k15 (sd_w (v3 + 1)) r6.2) else (k131 r4.2))
set_option maxRecDepth 4000 in
theorem t_X5_reads_102 {d : Nat} (hd : 44 ≤ d) (into : Nat) (h_into : sd_o into 4) (k15 : Int → sd_M → Option (Int × sd_M)) (k31 : sd_M → Option (Int × sd_M)) (k43 : sd_M → Option (Int × sd_M)) (k131 : sd_M → Option (Int × sd_M)) (hk15 : ∀ (v3 : Int) (M : sd_M) (Rr : Int × sd_M), k15 v3 M = some Rr → sd_B sd_X d sd_q_X5_reads 15 [(0, .inr (.inr (some (14)))), (1, .inr (.inr (some (1)))), (2, .inr (.inr (some (into)))), (3, .inl (v3))] [] M (some (.inl Rr.1), sd_rp Rr.2, 0, 0)) (hk31 : ∀ (M : sd_M) (Rr : Int × sd_M), k31 M = some Rr → sd_B sd_X d sd_q_X5_reads 31 [(1, .inr (.inr (some (1))))] [] M (some (.inl Rr.1), sd_rp Rr.2, 0, 0)) (hk43 : ∀ (M : sd_M) (Rr : Int × sd_M), k43 M = some Rr → sd_B sd_X d sd_q_X5_reads 43 [(1, .inr (.inr (some (1))))] [] M (some (.inl Rr.1), sd_rp Rr.2, 0, 0)) (hk131 : ∀ (M : sd_M) (Rr : Int × sd_M), k131 M = some Rr → sd_B sd_X d sd_q_X5_reads 131 [(1, .inr (.inr (some (1))))] [] M (some (.inl Rr.1), sd_rp Rr.2, 0, 0)) (v3 : Int) (v4 : Int) (v5 : Int) (M : sd_M) (Rr : Int × sd_M) (h : f_X5_reads_102 k15 k31 k43 k131 into v3 v4 v5 M = some Rr) : sd_B sd_X d sd_q_X5_reads 102 [(0, .inr (.inr (some (14)))), (1, .inr (.inr (some (1)))), (2, .inr (.inr (some (into)))), (3, .inl (v3)), (4, .inl (v4)), (5, .inl (v5))] [] M (some (.inl Rr.1), sd_rp Rr.2, 0, 0) := by
  unfold f_X5_reads_102 at h
  refine sd_b_go 3 (pc2 := 107) (lv2 := [(0, .inr (.inr (some (14)))), (1, .inr (.inr (some (1)))), (2, .inr (.inr (some (into)))), (3, .inl (v3)), (4, .inl (v4)), (5, .inl (v5))]) (st2 := [.inl (v5), .inl (v4), .inr (.inr (some (into)))]) rfl ?_
  obtain ⟨r1, e1, h⟩ := sd_bnd h
  refine sd_b_call [.inr (.inr (some (into))), .inl (v4), .inl (v5)] [] rfl rfl sd_i_X4_addClause rfl rfl (Nat.le_of_ble_eq_true rfl) (sd_rc_v h_into) (m_X4_addClause (by omega) h_into e1) ?_
  refine sd_b_go 1 (pc2 := 111) (lv2 := [(0, .inr (.inr (some (14)))), (1, .inr (.inr (some (1)))), (2, .inr (.inr (some (into)))), (3, .inl (v3)), (4, .inl (v4)), (5, .inl (v5))]) (st2 := [.inr (.inr (some (1)))]) rfl ?_
  obtain ⟨r2, e2, h⟩ := sd_bnd h
  refine sd_b_call [.inr (.inr (some (1)))] [] rfl rfl sd_i_X7_kind rfl rfl (Nat.le_of_ble_eq_true rfl) (sd_rc_v sd_o_1) (m_X7_kind (by omega) e2) ?_
  refine sd_b_go 1 (pc2 := 117) (lv2 := [(0, .inr (.inr (some (14)))), (1, .inr (.inr (some (1)))), (2, .inr (.inr (some (into)))), (3, .inl (v3)), (4, .inl (v4)), (5, .inl (v5))]) (st2 := [.inl (512), .inl (r2.1)]) rfl ?_
  by_cases c3 : r2.1 = 512
  · rw [if_pos c3] at h
    refine sd_b_cf (c := .ne) rfl (decide_eq_false (not_not_intro c3)) (by decide) ?_
    refine sd_b_go 1 (pc2 := 121) (lv2 := [(0, .inr (.inr (some (14)))), (1, .inr (.inr (some (1)))), (2, .inr (.inr (some (into)))), (3, .inl (v3)), (4, .inl (v4)), (5, .inl (v5))]) (st2 := [.inl (1)]) rfl ?_
    cases h
    exact sd_b_rt rfl rfl rfl
  · rw [if_neg c3] at h
    refine sd_b_ct (c := .ne) (tgt := 122) rfl (decide_eq_true c3) (by decide) ?_
    refine sd_b_go 1 (pc2 := 123) (lv2 := [(0, .inr (.inr (some (14)))), (1, .inr (.inr (some (1)))), (2, .inr (.inr (some (into)))), (3, .inl (v3)), (4, .inl (v4)), (5, .inl (v5))]) (st2 := [.inr (.inr (some (1)))]) rfl ?_
    obtain ⟨r4, e4, h⟩ := sd_bnd h
    refine sd_b_call [.inr (.inr (some (1)))] [] rfl rfl sd_i_X7_kind rfl rfl (Nat.le_of_ble_eq_true rfl) (sd_rc_v sd_o_1) (m_X7_kind (by omega) e4) ?_
    refine sd_b_go 1 (pc2 := 128) (lv2 := [(0, .inr (.inr (some (14)))), (1, .inr (.inr (some (1)))), (2, .inr (.inr (some (into)))), (3, .inl (v3)), (4, .inl (v4)), (5, .inl (v5))]) (st2 := [.inl (59), .inl (r4.1)]) rfl ?_
    by_cases c5 : r4.1 = 59
    · rw [if_pos c5] at h
      refine sd_b_ct (c := .eq) (tgt := 137) rfl (decide_eq_true c5) (by decide) ?_
      refine sd_b_go 1 (pc2 := 138) (lv2 := [(0, .inr (.inr (some (14)))), (1, .inr (.inr (some (1)))), (2, .inr (.inr (some (into)))), (3, .inl (v3)), (4, .inl (v4)), (5, .inl (v5))]) (st2 := [.inr (.inr (some (1)))]) rfl ?_
      obtain ⟨r6, e6, h⟩ := sd_bnd h
      refine sd_b_call [.inr (.inr (some (1)))] [] rfl rfl sd_i_X7_step rfl rfl (Nat.le_of_ble_eq_true rfl) (sd_rc_v sd_o_1) (m_X7_step (by omega) e6) ?_
      refine sd_b_go 2 (pc2 := 15) (lv2 := [(3, .inl (sd_w (v3 + 1))), (0, .inr (.inr (some (14)))), (1, .inr (.inr (some (1)))), (2, .inr (.inr (some (into)))), (4, .inl (v4)), (5, .inl (v5))]) (st2 := []) rfl ?_
      refine sd_b_wk [(0, .inr (.inr (some (14)))), (1, .inr (.inr (some (1)))), (2, .inr (.inr (some (into)))), (3, .inl (sd_w (v3 + 1)))] (List.forall_mem_cons.mpr ⟨rfl, (List.forall_mem_cons.mpr ⟨rfl, (List.forall_mem_cons.mpr ⟨rfl, (List.forall_mem_cons.mpr ⟨rfl, (fun _ h0 => absurd h0 List.not_mem_nil)⟩)⟩)⟩)⟩) ?_
      exact hk15 (sd_w (v3 + 1)) r6.2 _ h
    · rw [if_neg c5] at h
      refine sd_b_cf (c := .eq) rfl (decide_eq_false c5) (by decide) ?_
      refine sd_b_wk [(1, .inr (.inr (some (1))))] (List.forall_mem_cons.mpr ⟨rfl, (fun _ h0 => absurd h0 List.not_mem_nil)⟩) ?_
      exact hk131 r4.2 _ h
def f_X5_reads_15 (k31 : sd_M → Option (Int × sd_M)) (k43 : sd_M → Option (Int × sd_M)) (k131 : sd_M → Option (Int × sd_M)) (into : Nat) : Nat → Int → sd_M → Option (Int × sd_M)
  | 0, _, _ => none
  | n + 1, v3, M => if 12 < v3 then (some (0, M)) else ((f_X7_kind M).bind fun r2 => if r2.1 = 612 then (if v3 < 12 then ((f_X7_step r2.2).bind fun r5 => (f_X5_readsSum into r5.2).bind fun r6 => if r6.1 = 0 then (some (0, r6.2)) else ((f_X7_kind r6.2).bind fun r8 => if r8.1 = 613 then ((f_X7_step r8.2).bind fun r10 => (f_X5_readsTest into 0 r10.2).bind fun r11 => if r11.1 = 0 then (some (0, r11.2)) else (f_X5_reads_102 (f_X5_reads_15 k31 k43 k131 into n) k31 k43 k131 into v3 (r5.2 into 1) (r6.2 into 1) r11.2)) else (f_X5_reads_102 (f_X5_reads_15 k31 k43 k131 into n) k31 k43 k131 into v3 (r5.2 into 1) (r6.2 into 1) r8.2))) else (k43 r2.2)) else (k31 r2.2))
set_option maxRecDepth 4000 in
theorem t_X5_reads_15 {d : Nat} (hd : 44 ≤ d) (into : Nat) (h_into : sd_o into 4) (k31 : sd_M → Option (Int × sd_M)) (k43 : sd_M → Option (Int × sd_M)) (k131 : sd_M → Option (Int × sd_M)) (hk31 : ∀ (M : sd_M) (Rr : Int × sd_M), k31 M = some Rr → sd_B sd_X d sd_q_X5_reads 31 [(1, .inr (.inr (some (1))))] [] M (some (.inl Rr.1), sd_rp Rr.2, 0, 0)) (hk43 : ∀ (M : sd_M) (Rr : Int × sd_M), k43 M = some Rr → sd_B sd_X d sd_q_X5_reads 43 [(1, .inr (.inr (some (1))))] [] M (some (.inl Rr.1), sd_rp Rr.2, 0, 0)) (hk131 : ∀ (M : sd_M) (Rr : Int × sd_M), k131 M = some Rr → sd_B sd_X d sd_q_X5_reads 131 [(1, .inr (.inr (some (1))))] [] M (some (.inl Rr.1), sd_rp Rr.2, 0, 0)) : ∀ (n : Nat) (v3 : Int) (M : sd_M) (Rr : Int × sd_M), f_X5_reads_15 k31 k43 k131 into n v3 M = some Rr → sd_B sd_X d sd_q_X5_reads 15 [(0, .inr (.inr (some (14)))), (1, .inr (.inr (some (1)))), (2, .inr (.inr (some (into)))), (3, .inl (v3))] [] M (some (.inl Rr.1), sd_rp Rr.2, 0, 0) := by
  intro n
  induction n with
  | zero => intro v3 M Rr h; cases h
  | succ n ih =>
    intro v3 M Rr h
    rw [f_X5_reads_15] at h
    refine sd_b_go 2 (pc2 := 18) (lv2 := [(0, .inr (.inr (some (14)))), (1, .inr (.inr (some (1)))), (2, .inr (.inr (some (into)))), (3, .inl (v3))]) (st2 := [.inl (12), .inl (v3)]) rfl ?_
    by_cases c1 : 12 < v3
    · rw [if_pos c1] at h
      refine sd_b_ct (c := .gt) (tgt := 147) rfl (decide_eq_true c1) (by decide) ?_
      refine sd_b_go 1 (pc2 := 148) (lv2 := [(0, .inr (.inr (some (14)))), (1, .inr (.inr (some (1)))), (2, .inr (.inr (some (into)))), (3, .inl (v3))]) (st2 := [.inl (0)]) rfl ?_
      cases h
      exact sd_b_rt rfl rfl rfl
    · rw [if_neg c1] at h
      refine sd_b_cf (c := .gt) rfl (decide_eq_false c1) (by decide) ?_
      refine sd_b_go 1 (pc2 := 22) (lv2 := [(0, .inr (.inr (some (14)))), (1, .inr (.inr (some (1)))), (2, .inr (.inr (some (into)))), (3, .inl (v3))]) (st2 := [.inr (.inr (some (1)))]) rfl ?_
      obtain ⟨r2, e2, h⟩ := sd_bnd h
      refine sd_b_call [.inr (.inr (some (1)))] [] rfl rfl sd_i_X7_kind rfl rfl (Nat.le_of_ble_eq_true rfl) (sd_rc_v sd_o_1) (m_X7_kind (by omega) e2) ?_
      refine sd_b_go 1 (pc2 := 28) (lv2 := [(0, .inr (.inr (some (14)))), (1, .inr (.inr (some (1)))), (2, .inr (.inr (some (into)))), (3, .inl (v3))]) (st2 := [.inl (612), .inl (r2.1)]) rfl ?_
      by_cases c3 : r2.1 = 612
      · rw [if_pos c3] at h
        refine sd_b_ct (c := .eq) (tgt := 37) rfl (decide_eq_true c3) (by decide) ?_
        refine sd_b_go 2 (pc2 := 40) (lv2 := [(0, .inr (.inr (some (14)))), (1, .inr (.inr (some (1)))), (2, .inr (.inr (some (into)))), (3, .inl (v3))]) (st2 := [.inl (12), .inl (v3)]) rfl ?_
        by_cases c4 : v3 < 12
        · rw [if_pos c4] at h
          refine sd_b_ct (c := .lt) (tgt := 49) rfl (decide_eq_true c4) (by decide) ?_
          refine sd_b_go 1 (pc2 := 50) (lv2 := [(0, .inr (.inr (some (14)))), (1, .inr (.inr (some (1)))), (2, .inr (.inr (some (into)))), (3, .inl (v3))]) (st2 := [.inr (.inr (some (1)))]) rfl ?_
          obtain ⟨r5, e5, h⟩ := sd_bnd h
          refine sd_b_call [.inr (.inr (some (1)))] [] rfl rfl sd_i_X7_step rfl rfl (Nat.le_of_ble_eq_true rfl) (sd_rc_v sd_o_1) (m_X7_step (by omega) e5) ?_
          refine sd_b_go 1 (pc2 := 54) (lv2 := [(0, .inr (.inr (some (14)))), (1, .inr (.inr (some (1)))), (2, .inr (.inr (some (into)))), (3, .inl (v3))]) (st2 := [.inr (.inr (some (into)))]) rfl ?_
          refine sd_b_gi (k := 1) h_into rfl rfl rfl ?_
          refine sd_b_go 4 (pc2 := 62) (lv2 := [(4, .inl (r5.2 into 1)), (0, .inr (.inr (some (14)))), (1, .inr (.inr (some (1)))), (2, .inr (.inr (some (into)))), (3, .inl (v3))]) (st2 := [.inr (.inr (some (into))), .inr (.inr (some (1))), .inr (.inr (some (14)))]) rfl ?_
          obtain ⟨r6, e6, h⟩ := sd_bnd h
          refine sd_b_call [.inr (.inr (some (14))), .inr (.inr (some (1))), .inr (.inr (some (into)))] [] rfl rfl sd_i_X5_readsSum rfl rfl (Nat.le_of_ble_eq_true rfl) (sd_rc_v sd_o_14) (m_X5_readsSum (by omega) h_into e6) ?_
          by_cases c7 : r6.1 = 0
          · rw [if_pos c7] at h
            refine sd_b_zf (c := .ne) rfl (decide_eq_false (not_not_intro c7)) (by decide) ?_
            refine sd_b_go 1 (pc2 := 69) (lv2 := [(4, .inl (r5.2 into 1)), (0, .inr (.inr (some (14)))), (1, .inr (.inr (some (1)))), (2, .inr (.inr (some (into)))), (3, .inl (v3))]) (st2 := [.inl (0)]) rfl ?_
            cases h
            exact sd_b_rt rfl rfl rfl
          · rw [if_neg c7] at h
            refine sd_b_zt (c := .ne) (tgt := 70) rfl (decide_eq_true c7) (by decide) ?_
            refine sd_b_go 1 (pc2 := 71) (lv2 := [(4, .inl (r5.2 into 1)), (0, .inr (.inr (some (14)))), (1, .inr (.inr (some (1)))), (2, .inr (.inr (some (into)))), (3, .inl (v3))]) (st2 := [.inr (.inr (some (into)))]) rfl ?_
            refine sd_b_gi (k := 1) h_into rfl rfl rfl ?_
            refine sd_b_go 2 (pc2 := 77) (lv2 := [(5, .inl (r6.2 into 1)), (4, .inl (r5.2 into 1)), (0, .inr (.inr (some (14)))), (1, .inr (.inr (some (1)))), (2, .inr (.inr (some (into)))), (3, .inl (v3))]) (st2 := [.inr (.inr (some (1)))]) rfl ?_
            obtain ⟨r8, e8, h⟩ := sd_bnd h
            refine sd_b_call [.inr (.inr (some (1)))] [] rfl rfl sd_i_X7_kind rfl rfl (Nat.le_of_ble_eq_true rfl) (sd_rc_v sd_o_1) (m_X7_kind (by omega) e8) ?_
            refine sd_b_go 1 (pc2 := 83) (lv2 := [(5, .inl (r6.2 into 1)), (4, .inl (r5.2 into 1)), (0, .inr (.inr (some (14)))), (1, .inr (.inr (some (1)))), (2, .inr (.inr (some (into)))), (3, .inl (v3))]) (st2 := [.inl (613), .inl (r8.1)]) rfl ?_
            by_cases c9 : r8.1 = 613
            · rw [if_pos c9] at h
              refine sd_b_cf (c := .ne) rfl (decide_eq_false (not_not_intro c9)) (by decide) ?_
              refine sd_b_go 1 (pc2 := 87) (lv2 := [(5, .inl (r6.2 into 1)), (4, .inl (r5.2 into 1)), (0, .inr (.inr (some (14)))), (1, .inr (.inr (some (1)))), (2, .inr (.inr (some (into)))), (3, .inl (v3))]) (st2 := [.inr (.inr (some (1)))]) rfl ?_
              obtain ⟨r10, e10, h⟩ := sd_bnd h
              refine sd_b_call [.inr (.inr (some (1)))] [] rfl rfl sd_i_X7_step rfl rfl (Nat.le_of_ble_eq_true rfl) (sd_rc_v sd_o_1) (m_X7_step (by omega) e10) ?_
              refine sd_b_go 4 (pc2 := 94) (lv2 := [(5, .inl (r6.2 into 1)), (4, .inl (r5.2 into 1)), (0, .inr (.inr (some (14)))), (1, .inr (.inr (some (1)))), (2, .inr (.inr (some (into)))), (3, .inl (v3))]) (st2 := [.inl (0), .inr (.inr (some (into))), .inr (.inr (some (1))), .inr (.inr (some (14)))]) rfl ?_
              obtain ⟨r11, e11, h⟩ := sd_bnd h
              refine sd_b_call [.inr (.inr (some (14))), .inr (.inr (some (1))), .inr (.inr (some (into))), .inl (0)] [] rfl rfl sd_i_X5_readsTest rfl rfl (Nat.le_of_ble_eq_true rfl) (sd_rc_v sd_o_14) (m_X5_readsTest (by omega) h_into e11) ?_
              by_cases c12 : r11.1 = 0
              · rw [if_pos c12] at h
                refine sd_b_zf (c := .ne) rfl (decide_eq_false (not_not_intro c12)) (by decide) ?_
                refine sd_b_go 1 (pc2 := 101) (lv2 := [(5, .inl (r6.2 into 1)), (4, .inl (r5.2 into 1)), (0, .inr (.inr (some (14)))), (1, .inr (.inr (some (1)))), (2, .inr (.inr (some (into)))), (3, .inl (v3))]) (st2 := [.inl (0)]) rfl ?_
                cases h
                exact sd_b_rt rfl rfl rfl
              · rw [if_neg c12] at h
                refine sd_b_zt (c := .ne) (tgt := 102) rfl (decide_eq_true c12) (by decide) ?_
                refine sd_b_wk [(0, .inr (.inr (some (14)))), (1, .inr (.inr (some (1)))), (2, .inr (.inr (some (into)))), (3, .inl (v3)), (4, .inl (r5.2 into 1)), (5, .inl (r6.2 into 1))] (List.forall_mem_cons.mpr ⟨rfl, (List.forall_mem_cons.mpr ⟨rfl, (List.forall_mem_cons.mpr ⟨rfl, (List.forall_mem_cons.mpr ⟨rfl, (List.forall_mem_cons.mpr ⟨rfl, (List.forall_mem_cons.mpr ⟨rfl, (fun _ h0 => absurd h0 List.not_mem_nil)⟩)⟩)⟩)⟩)⟩)⟩) ?_
                exact t_X5_reads_102 hd into h_into (f_X5_reads_15 k31 k43 k131 into n) k31 k43 k131 ih hk31 hk43 hk131 v3 (r5.2 into 1) (r6.2 into 1) r11.2 _ h
            · rw [if_neg c9] at h
              refine sd_b_ct (c := .ne) (tgt := 102) rfl (decide_eq_true c9) (by decide) ?_
              refine sd_b_wk [(0, .inr (.inr (some (14)))), (1, .inr (.inr (some (1)))), (2, .inr (.inr (some (into)))), (3, .inl (v3)), (4, .inl (r5.2 into 1)), (5, .inl (r6.2 into 1))] (List.forall_mem_cons.mpr ⟨rfl, (List.forall_mem_cons.mpr ⟨rfl, (List.forall_mem_cons.mpr ⟨rfl, (List.forall_mem_cons.mpr ⟨rfl, (List.forall_mem_cons.mpr ⟨rfl, (List.forall_mem_cons.mpr ⟨rfl, (fun _ h0 => absurd h0 List.not_mem_nil)⟩)⟩)⟩)⟩)⟩)⟩) ?_
              exact t_X5_reads_102 hd into h_into (f_X5_reads_15 k31 k43 k131 into n) k31 k43 k131 ih hk31 hk43 hk131 v3 (r5.2 into 1) (r6.2 into 1) r8.2 _ h
        · rw [if_neg c4] at h
          refine sd_b_cf (c := .lt) rfl (decide_eq_false c4) (by decide) ?_
          refine sd_b_wk [(1, .inr (.inr (some (1))))] (List.forall_mem_cons.mpr ⟨rfl, (fun _ h0 => absurd h0 List.not_mem_nil)⟩) ?_
          exact hk43 r2.2 _ h
      · rw [if_neg c3] at h
        refine sd_b_cf (c := .eq) rfl (decide_eq_false c3) (by decide) ?_
        refine sd_b_wk [(1, .inr (.inr (some (1))))] (List.forall_mem_cons.mpr ⟨rfl, (fun _ h0 => absurd h0 List.not_mem_nil)⟩) ?_
        exact hk31 r2.2 _ h
def f_X5_reads_31 (into : Nat) (M : sd_M) : Option (Int × sd_M) := (f_X7_fails 0 M).bind fun r1 => if r1.1 = 0 ∨ r1.1 = 1 then some (r1.1, r1.2) else none
set_option maxRecDepth 4000 in
theorem t_X5_reads_31 {d : Nat} (hd : 44 ≤ d) (into : Nat) (h_into : sd_o into 4) (M : sd_M) (Rr : Int × sd_M) (h : f_X5_reads_31 into M = some Rr) : sd_B sd_X d sd_q_X5_reads 31 [(1, .inr (.inr (some (1))))] [] M (some (.inl Rr.1), sd_rp Rr.2, 0, 0) := by
  unfold f_X5_reads_31 at h
  refine sd_b_go 2 (pc2 := 33) (lv2 := [(1, .inr (.inr (some (1))))]) (st2 := [.inl (0), .inr (.inr (some (1)))]) rfl ?_
  obtain ⟨r1, e1, h⟩ := sd_bnd h
  refine sd_b_call [.inr (.inr (some (1))), .inl (0)] [] rfl rfl sd_i_X7_fails rfl rfl (Nat.le_of_ble_eq_true rfl) (sd_rc_v sd_o_1) (m_X7_fails (by omega) e1) ?_
  obtain ⟨g2, h⟩ := sd_if h
  cases h
  exact sd_b_rz g2 rfl rfl
def f_X5_reads_43 (into : Nat) (M : sd_M) : Option (Int × sd_M) := (f_X7_fails 4 M).bind fun r1 => if r1.1 = 0 ∨ r1.1 = 1 then some (r1.1, r1.2) else none
set_option maxRecDepth 4000 in
theorem t_X5_reads_43 {d : Nat} (hd : 44 ≤ d) (into : Nat) (h_into : sd_o into 4) (M : sd_M) (Rr : Int × sd_M) (h : f_X5_reads_43 into M = some Rr) : sd_B sd_X d sd_q_X5_reads 43 [(1, .inr (.inr (some (1))))] [] M (some (.inl Rr.1), sd_rp Rr.2, 0, 0) := by
  unfold f_X5_reads_43 at h
  refine sd_b_go 2 (pc2 := 45) (lv2 := [(1, .inr (.inr (some (1))))]) (st2 := [.inl (4), .inr (.inr (some (1)))]) rfl ?_
  obtain ⟨r1, e1, h⟩ := sd_bnd h
  refine sd_b_call [.inr (.inr (some (1))), .inl (4)] [] rfl rfl sd_i_X7_fails rfl rfl (Nat.le_of_ble_eq_true rfl) (sd_rc_v sd_o_1) (m_X7_fails (by omega) e1) ?_
  obtain ⟨g2, h⟩ := sd_if h
  cases h
  exact sd_b_rz g2 rfl rfl
def f_X5_reads_131 (into : Nat) (M : sd_M) : Option (Int × sd_M) := (f_X7_fails 0 M).bind fun r1 => if r1.1 = 0 ∨ r1.1 = 1 then some (r1.1, r1.2) else none
set_option maxRecDepth 4000 in
theorem t_X5_reads_131 {d : Nat} (hd : 44 ≤ d) (into : Nat) (h_into : sd_o into 4) (M : sd_M) (Rr : Int × sd_M) (h : f_X5_reads_131 into M = some Rr) : sd_B sd_X d sd_q_X5_reads 131 [(1, .inr (.inr (some (1))))] [] M (some (.inl Rr.1), sd_rp Rr.2, 0, 0) := by
  unfold f_X5_reads_131 at h
  refine sd_b_go 2 (pc2 := 133) (lv2 := [(1, .inr (.inr (some (1))))]) (st2 := [.inl (0), .inr (.inr (some (1)))]) rfl ?_
  obtain ⟨r1, e1, h⟩ := sd_bnd h
  refine sd_b_call [.inr (.inr (some (1))), .inl (0)] [] rfl rfl sd_i_X7_fails rfl rfl (Nat.le_of_ble_eq_true rfl) (sd_rc_v sd_o_1) (m_X7_fails (by omega) e1) ?_
  obtain ⟨g2, h⟩ := sd_if h
  cases h
  exact sd_b_rz g2 rfl rfl
def f_X5_reads (into : Nat) (M : sd_M) : Option (Int × sd_M) := (f_X4_clear into M).bind fun r1 => (f_X7_cut (sd_s r1.2 14 0 0)).bind fun r2 => f_X5_reads_15 (f_X5_reads_31 into) (f_X5_reads_43 into) (f_X5_reads_131 into) into 4000 0 r2.2
set_option maxRecDepth 4000 in
theorem t_X5_reads {d : Nat} (hd : 44 ≤ d) (into : Nat) (h_into : sd_o into 4) (M : sd_M) (Rr : Int × sd_M) (h : f_X5_reads into M = some Rr) : sd_B sd_X d sd_q_X5_reads 0 [(0, .inr (.inr (some (14)))), (1, .inr (.inr (some (1)))), (2, .inr (.inr (some (into))))] [] M (some (.inl Rr.1), sd_rp Rr.2, 0, 0) := by
  unfold f_X5_reads at h
  refine sd_b_go 1 (pc2 := 1) (lv2 := [(0, .inr (.inr (some (14)))), (1, .inr (.inr (some (1)))), (2, .inr (.inr (some (into))))]) (st2 := [.inr (.inr (some (into)))]) rfl ?_
  obtain ⟨r1, e1, h⟩ := sd_bnd h
  refine sd_b_call [.inr (.inr (some (into)))] [] rfl rfl sd_i_X4_clear rfl rfl (Nat.le_of_ble_eq_true rfl) (sd_rc_v h_into) (m_X4_clear (by omega) h_into e1) ?_
  refine sd_b_go 2 (pc2 := 6) (lv2 := [(0, .inr (.inr (some (14)))), (1, .inr (.inr (some (1)))), (2, .inr (.inr (some (into))))]) (st2 := [.inl (0), .inr (.inr (some (14)))]) rfl ?_
  refine sd_b_pi (k := 0) sd_o_14 rfl rfl rfl rfl rfl ?_
  refine sd_b_go 1 (pc2 := 10) (lv2 := [(0, .inr (.inr (some (14)))), (1, .inr (.inr (some (1)))), (2, .inr (.inr (some (into))))]) (st2 := [.inr (.inr (some (1)))]) rfl ?_
  obtain ⟨r2, e2, h⟩ := sd_bnd h
  refine sd_b_call [.inr (.inr (some (1)))] [] rfl rfl sd_i_X7_cut rfl rfl (Nat.le_of_ble_eq_true rfl) (sd_rc_v sd_o_1) (m_X7_cut (by omega) e2) ?_
  refine sd_b_go 2 (pc2 := 15) (lv2 := [(3, .inl (0)), (0, .inr (.inr (some (14)))), (1, .inr (.inr (some (1)))), (2, .inr (.inr (some (into))))]) (st2 := []) rfl ?_
  refine sd_b_wk [(0, .inr (.inr (some (14)))), (1, .inr (.inr (some (1)))), (2, .inr (.inr (some (into)))), (3, .inl (0))] (List.forall_mem_cons.mpr ⟨rfl, (List.forall_mem_cons.mpr ⟨rfl, (List.forall_mem_cons.mpr ⟨rfl, (List.forall_mem_cons.mpr ⟨rfl, (fun _ h0 => absurd h0 List.not_mem_nil)⟩)⟩)⟩)⟩) ?_
  exact t_X5_reads_15 hd into h_into (f_X5_reads_31 into) (f_X5_reads_43 into) (f_X5_reads_131 into) (t_X5_reads_31 hd into h_into) (t_X5_reads_43 hd into h_into) (t_X5_reads_131 hd into h_into) 4000 0 r2.2 _ h
theorem m_X5_reads {d : Nat} (hd : 45 ≤ d) {into : Nat} (h_into : sd_o into 4) {M : sd_M} {Rr : Int × sd_M} (h : f_X5_reads into M = some Rr) : sd_Cal sd_X d 41 [.inr (.inr (some (14))), .inr (.inr (some (1))), .inr (.inr (some (into)))] (sd_rp M) (some (.inl Rr.1), sd_rp Rr.2, 0, 0) := by
  obtain ⟨d, rfl⟩ : ∃ d2, d = d2 + 1 := ⟨d - 1, by omega⟩
  exact sd_cal_of sd_i_X5_reads (Nat.le_of_ble_eq_true rfl) (t_X5_reads (by omega) into h_into M Rr h)
-- X6_reads
def sd_q_X6_reads : sd_MI := (yX6_reads, cX6_reads, 3, (some .boolean), 6, 1, sd_t_X6_reads)
set_option maxRecDepth 4000 in
theorem sd_i_X6_reads : sd_mL[49]? = some sd_q_X6_reads := rfl
def f_X6_reads_30 (k68 : sd_M → Option (Int × sd_M)) : Nat → Int → sd_M → Option (Int × sd_M)
  | 0, _, _ => none
  | n + 1, v2, M => if 40 < v2 then (some (0, M)) else ((f_X6_readsClause v2 M).bind fun r2 => if r2.1 = 0 then (some (0, r2.2)) else ((f_X7_kind r2.2).bind fun r4 => if r4.1 = 512 then (some (1, r4.2)) else ((f_X7_kind r4.2).bind fun r6 => if r6.1 = 59 then ((f_X7_step r6.2).bind fun r8 => f_X6_reads_30 k68 n (sd_w (v2 + 1)) r8.2) else (k68 r6.2))))
set_option maxRecDepth 4000 in
theorem t_X6_reads_30 {X : Nat → List sd_V → List sd_E → sd_A → Prop} {d : Nat} (hd : 4 ≤ d) (k68 : sd_M → Option (Int × sd_M)) (hk68 : ∀ (M : sd_M) (Rr : Int × sd_M), k68 M = some Rr → sd_B X d sd_q_X6_reads 68 [(1, .inr (.inr (some (1))))] [] M (some (.inl Rr.1), sd_rp Rr.2, 0, 0)) : ∀ (n : Nat) (v2 : Int) (M : sd_M) (Rr : Int × sd_M), f_X6_reads_30 k68 n v2 M = some Rr → sd_B X d sd_q_X6_reads 30 [(0, .inr (.inr (some (6)))), (1, .inr (.inr (some (1)))), (2, .inl (v2))] [] M (some (.inl Rr.1), sd_rp Rr.2, 0, 0) := by
  intro n
  induction n with
  | zero => intro v2 M Rr h; cases h
  | succ n ih =>
    intro v2 M Rr h
    rw [f_X6_reads_30] at h
    refine sd_b_go 2 (pc2 := 33) (lv2 := [(0, .inr (.inr (some (6)))), (1, .inr (.inr (some (1)))), (2, .inl (v2))]) (st2 := [.inl (40), .inl (v2)]) rfl ?_
    by_cases c1 : 40 < v2
    · rw [if_pos c1] at h
      refine sd_b_ct (c := .gt) (tgt := 84) rfl (decide_eq_true c1) (by decide) ?_
      refine sd_b_go 1 (pc2 := 85) (lv2 := [(0, .inr (.inr (some (6)))), (1, .inr (.inr (some (1)))), (2, .inl (v2))]) (st2 := [.inl (0)]) rfl ?_
      cases h
      exact sd_b_rt rfl rfl rfl
    · rw [if_neg c1] at h
      refine sd_b_cf (c := .gt) rfl (decide_eq_false c1) (by decide) ?_
      refine sd_b_go 3 (pc2 := 39) (lv2 := [(0, .inr (.inr (some (6)))), (1, .inr (.inr (some (1)))), (2, .inl (v2))]) (st2 := [.inl (v2), .inr (.inr (some (1))), .inr (.inr (some (6)))]) rfl ?_
      obtain ⟨r2, e2, h⟩ := sd_bnd h
      refine sd_b_call [.inr (.inr (some (6))), .inr (.inr (some (1))), .inl (v2)] [] rfl rfl sd_i_X6_readsClause rfl rfl (Nat.le_of_ble_eq_true rfl) (sd_rc_v sd_o_6) (m_X6_readsClause (by omega) e2) ?_
      by_cases c3 : r2.1 = 0
      · rw [if_pos c3] at h
        refine sd_b_zf (c := .ne) rfl (decide_eq_false (not_not_intro c3)) (by decide) ?_
        refine sd_b_go 1 (pc2 := 46) (lv2 := [(0, .inr (.inr (some (6)))), (1, .inr (.inr (some (1)))), (2, .inl (v2))]) (st2 := [.inl (0)]) rfl ?_
        cases h
        exact sd_b_rt rfl rfl rfl
      · rw [if_neg c3] at h
        refine sd_b_zt (c := .ne) (tgt := 47) rfl (decide_eq_true c3) (by decide) ?_
        refine sd_b_go 1 (pc2 := 48) (lv2 := [(0, .inr (.inr (some (6)))), (1, .inr (.inr (some (1)))), (2, .inl (v2))]) (st2 := [.inr (.inr (some (1)))]) rfl ?_
        obtain ⟨r4, e4, h⟩ := sd_bnd h
        refine sd_b_call [.inr (.inr (some (1)))] [] rfl rfl sd_i_X7_kind rfl rfl (Nat.le_of_ble_eq_true rfl) (sd_rc_v sd_o_1) (m_X7_kind (by omega) e4) ?_
        refine sd_b_go 1 (pc2 := 54) (lv2 := [(0, .inr (.inr (some (6)))), (1, .inr (.inr (some (1)))), (2, .inl (v2))]) (st2 := [.inl (512), .inl (r4.1)]) rfl ?_
        by_cases c5 : r4.1 = 512
        · rw [if_pos c5] at h
          refine sd_b_cf (c := .ne) rfl (decide_eq_false (not_not_intro c5)) (by decide) ?_
          refine sd_b_go 1 (pc2 := 58) (lv2 := [(0, .inr (.inr (some (6)))), (1, .inr (.inr (some (1)))), (2, .inl (v2))]) (st2 := [.inl (1)]) rfl ?_
          cases h
          exact sd_b_rt rfl rfl rfl
        · rw [if_neg c5] at h
          refine sd_b_ct (c := .ne) (tgt := 59) rfl (decide_eq_true c5) (by decide) ?_
          refine sd_b_go 1 (pc2 := 60) (lv2 := [(0, .inr (.inr (some (6)))), (1, .inr (.inr (some (1)))), (2, .inl (v2))]) (st2 := [.inr (.inr (some (1)))]) rfl ?_
          obtain ⟨r6, e6, h⟩ := sd_bnd h
          refine sd_b_call [.inr (.inr (some (1)))] [] rfl rfl sd_i_X7_kind rfl rfl (Nat.le_of_ble_eq_true rfl) (sd_rc_v sd_o_1) (m_X7_kind (by omega) e6) ?_
          refine sd_b_go 1 (pc2 := 65) (lv2 := [(0, .inr (.inr (some (6)))), (1, .inr (.inr (some (1)))), (2, .inl (v2))]) (st2 := [.inl (59), .inl (r6.1)]) rfl ?_
          by_cases c7 : r6.1 = 59
          · rw [if_pos c7] at h
            refine sd_b_ct (c := .eq) (tgt := 74) rfl (decide_eq_true c7) (by decide) ?_
            refine sd_b_go 1 (pc2 := 75) (lv2 := [(0, .inr (.inr (some (6)))), (1, .inr (.inr (some (1)))), (2, .inl (v2))]) (st2 := [.inr (.inr (some (1)))]) rfl ?_
            obtain ⟨r8, e8, h⟩ := sd_bnd h
            refine sd_b_call [.inr (.inr (some (1)))] [] rfl rfl sd_i_X7_step rfl rfl (Nat.le_of_ble_eq_true rfl) (sd_rc_v sd_o_1) (m_X7_step (by omega) e8) ?_
            refine sd_b_go 2 (pc2 := 30) (lv2 := [(2, .inl (sd_w (v2 + 1))), (0, .inr (.inr (some (6)))), (1, .inr (.inr (some (1))))]) (st2 := []) rfl ?_
            refine sd_b_wk [(0, .inr (.inr (some (6)))), (1, .inr (.inr (some (1)))), (2, .inl (sd_w (v2 + 1)))] (List.forall_mem_cons.mpr ⟨rfl, (List.forall_mem_cons.mpr ⟨rfl, (List.forall_mem_cons.mpr ⟨rfl, (fun _ h0 => absurd h0 List.not_mem_nil)⟩)⟩)⟩) ?_
            exact ih (sd_w (v2 + 1)) r8.2 _ h
          · rw [if_neg c7] at h
            refine sd_b_cf (c := .eq) rfl (decide_eq_false c7) (by decide) ?_
            refine sd_b_wk [(1, .inr (.inr (some (1))))] (List.forall_mem_cons.mpr ⟨rfl, (fun _ h0 => absurd h0 List.not_mem_nil)⟩) ?_
            exact hk68 r6.2 _ h
def f_X6_reads_68 (M : sd_M) : Option (Int × sd_M) := (f_X7_fails 0 M).bind fun r1 => if r1.1 = 0 ∨ r1.1 = 1 then some (r1.1, r1.2) else none
set_option maxRecDepth 4000 in
theorem t_X6_reads_68 {X : Nat → List sd_V → List sd_E → sd_A → Prop} {d : Nat} (hd : 4 ≤ d) (M : sd_M) (Rr : Int × sd_M) (h : f_X6_reads_68 M = some Rr) : sd_B X d sd_q_X6_reads 68 [(1, .inr (.inr (some (1))))] [] M (some (.inl Rr.1), sd_rp Rr.2, 0, 0) := by
  unfold f_X6_reads_68 at h
  refine sd_b_go 2 (pc2 := 70) (lv2 := [(1, .inr (.inr (some (1))))]) (st2 := [.inl (0), .inr (.inr (some (1)))]) rfl ?_
  obtain ⟨r1, e1, h⟩ := sd_bnd h
  refine sd_b_call [.inr (.inr (some (1))), .inl (0)] [] rfl rfl sd_i_X7_fails rfl rfl (Nat.le_of_ble_eq_true rfl) (sd_rc_v sd_o_1) (m_X7_fails (by omega) e1) ?_
  obtain ⟨g2, h⟩ := sd_if h
  cases h
  exact sd_b_rz g2 rfl rfl
def f_X6_reads (M : sd_M) : Option (Int × sd_M) := (f_X7_cut (sd_s (sd_s (sd_s M 7 0 1) 7 2 0) 7 6 0)).bind fun r1 => f_X6_reads_30 (f_X6_reads_68) 4000 0 r1.2
set_option maxRecDepth 4000 in
theorem t_X6_reads {X : Nat → List sd_V → List sd_E → sd_A → Prop} {d : Nat} (hd : 4 ≤ d) (M : sd_M) (Rr : Int × sd_M) (h : f_X6_reads M = some Rr) : sd_B X d sd_q_X6_reads 0 [(0, .inr (.inr (some (6)))), (1, .inr (.inr (some (1))))] [] M (some (.inl Rr.1), sd_rp Rr.2, 0, 0) := by
  unfold f_X6_reads at h
  refine sd_b_go 1 (pc2 := 1) (lv2 := [(0, .inr (.inr (some (6)))), (1, .inr (.inr (some (1))))]) (st2 := [.inr (.inr (some (6)))]) rfl ?_
  refine sd_b_gr (k := 0) sd_o_6 rfl rfl rfl ?_
  refine sd_b_go 1 (pc2 := 5) (lv2 := [(0, .inr (.inr (some (6)))), (1, .inr (.inr (some (1))))]) (st2 := [.inl (1), .inr (.inr (some (7)))]) rfl ?_
  refine sd_b_pz (k := 0) sd_o_7 rfl rfl rfl rfl (by decide) rfl ?_
  refine sd_b_go 1 (pc2 := 9) (lv2 := [(0, .inr (.inr (some (6)))), (1, .inr (.inr (some (1))))]) (st2 := [.inr (.inr (some (6)))]) rfl ?_
  refine sd_b_gr (k := 0) sd_o_6 rfl rfl rfl ?_
  refine sd_b_go 1 (pc2 := 13) (lv2 := [(0, .inr (.inr (some (6)))), (1, .inr (.inr (some (1))))]) (st2 := [.inl (0), .inr (.inr (some (7)))]) rfl ?_
  refine sd_b_pi (k := 2) sd_o_7 rfl rfl rfl rfl rfl ?_
  refine sd_b_go 1 (pc2 := 17) (lv2 := [(0, .inr (.inr (some (6)))), (1, .inr (.inr (some (1))))]) (st2 := [.inr (.inr (some (6)))]) rfl ?_
  refine sd_b_gr (k := 0) sd_o_6 rfl rfl rfl ?_
  refine sd_b_go 1 (pc2 := 21) (lv2 := [(0, .inr (.inr (some (6)))), (1, .inr (.inr (some (1))))]) (st2 := [.inl (0), .inr (.inr (some (7)))]) rfl ?_
  refine sd_b_pi (k := 6) sd_o_7 rfl rfl rfl rfl rfl ?_
  refine sd_b_go 1 (pc2 := 25) (lv2 := [(0, .inr (.inr (some (6)))), (1, .inr (.inr (some (1))))]) (st2 := [.inr (.inr (some (1)))]) rfl ?_
  obtain ⟨r1, e1, h⟩ := sd_bnd h
  refine sd_b_call [.inr (.inr (some (1)))] [] rfl rfl sd_i_X7_cut rfl rfl (Nat.le_of_ble_eq_true rfl) (sd_rc_v sd_o_1) (m_X7_cut (by omega) e1) ?_
  refine sd_b_go 2 (pc2 := 30) (lv2 := [(2, .inl (0)), (0, .inr (.inr (some (6)))), (1, .inr (.inr (some (1))))]) (st2 := []) rfl ?_
  refine sd_b_wk [(0, .inr (.inr (some (6)))), (1, .inr (.inr (some (1)))), (2, .inl (0))] (List.forall_mem_cons.mpr ⟨rfl, (List.forall_mem_cons.mpr ⟨rfl, (List.forall_mem_cons.mpr ⟨rfl, (fun _ h0 => absurd h0 List.not_mem_nil)⟩)⟩)⟩) ?_
  exact t_X6_reads_30 hd (f_X6_reads_68) (t_X6_reads_68 hd) 4000 0 r1.2 _ h
theorem m_X6_reads {X : Nat → List sd_V → List sd_E → sd_A → Prop} {d : Nat} (hd : 5 ≤ d) {M : sd_M} {Rr : Int × sd_M} (h : f_X6_reads M = some Rr) : sd_Cal X d 49 [.inr (.inr (some (6))), .inr (.inr (some (1)))] (sd_rp M) (some (.inl Rr.1), sd_rp Rr.2, 0, 0) := by
  obtain ⟨d, rfl⟩ : ∃ d2, d = d2 + 1 := ⟨d - 1, by omega⟩
  exact sd_cal_of sd_i_X6_reads (Nat.le_of_ble_eq_true rfl) (t_X6_reads (by omega) M Rr h)
-- X9_slip
def sd_q_X9_slip : sd_MI := (yX9_slip, cX9_slip, 2, (some .int), 9, 0, sd_t_X9_slip)
set_option maxRecDepth 4000 in
theorem sd_i_X9_slip : sd_mL[75]? = some sd_q_X9_slip := rfl
def f_X9_slip (M : sd_M) : Option (Int × sd_M) := (f_X6_reads M).bind fun r1 => if r1.1 = 0 then (some (sd_w (((-2)) - (sd_s r1.2 1 1 0 1 2)), sd_s r1.2 1 1 0)) else ((f_X8_copyFrom 59 7 (sd_s r1.2 1 1 0)).bind fun r3 => (f_X0_begin 66 r3.2).bind fun r4 => some (sd_s (sd_s r4.2 74 0 0) 0 9 0 59 2, sd_s (sd_s r4.2 74 0 0) 0 9 0))
set_option maxRecDepth 4000 in
theorem t_X9_slip {X : Nat → List sd_V → List sd_E → sd_A → Prop} {d : Nat} (hd : 5 ≤ d) (M : sd_M) (Rr : Int × sd_M) (h : f_X9_slip M = some Rr) : sd_B X d sd_q_X9_slip 0 [(0, .inr (.inr (some (0))))] [] M (some (.inl Rr.1), sd_rp Rr.2, 0, 0) := by
  unfold f_X9_slip at h
  refine sd_b_go 1 (pc2 := 1) (lv2 := [(0, .inr (.inr (some (0))))]) (st2 := [.inr (.inr (some (0)))]) rfl ?_
  refine sd_b_gr (k := 1) sd_o_0 rfl rfl rfl ?_
  refine sd_b_go 1 (pc2 := 5) (lv2 := [(0, .inr (.inr (some (0))))]) (st2 := [.inr (.inr (some (0))), .inr (.inr (some (6)))]) rfl ?_
  refine sd_b_gr (k := 0) sd_o_0 rfl rfl rfl ?_
  obtain ⟨r1, e1, h⟩ := sd_bnd h
  refine sd_b_call [.inr (.inr (some (6))), .inr (.inr (some (1)))] [] rfl rfl sd_i_X6_reads rfl rfl (Nat.le_of_ble_eq_true rfl) (sd_rc_v sd_o_6) (m_X6_reads (by omega) e1) ?_
  refine sd_b_go 2 (pc2 := 13) (lv2 := [(1, .inl (r1.1)), (0, .inr (.inr (some (0))))]) (st2 := [.inr (.inr (some (0)))]) rfl ?_
  refine sd_b_gr (k := 0) sd_o_0 rfl rfl rfl ?_
  refine sd_b_go 1 (pc2 := 17) (lv2 := [(1, .inl (r1.1)), (0, .inr (.inr (some (0))))]) (st2 := [.inl (0), .inr (.inr (some (1)))]) rfl ?_
  refine sd_b_pi (k := 1) sd_o_1 rfl rfl rfl rfl rfl ?_
  refine sd_b_go 1 (pc2 := 21) (lv2 := [(1, .inl (r1.1)), (0, .inr (.inr (some (0))))]) (st2 := [.inl (r1.1)]) rfl ?_
  by_cases c2 : r1.1 = 0
  · rw [if_pos c2] at h
    refine sd_b_zf (c := .ne) rfl (decide_eq_false (not_not_intro c2)) (by decide) ?_
    refine sd_b_go 2 (pc2 := 27) (lv2 := [(1, .inl (r1.1)), (0, .inr (.inr (some (0))))]) (st2 := [.inr (.inr (some (0))), .inl ((-2))]) rfl ?_
    refine sd_b_gr (k := 0) sd_o_0 rfl rfl rfl ?_
    refine sd_b_gi (k := 2) sd_o_1 rfl rfl rfl ?_
    refine sd_b_go 1 (pc2 := 34) (lv2 := [(1, .inl (r1.1)), (0, .inr (.inr (some (0))))]) (st2 := [.inl (sd_w (((-2)) - (sd_s r1.2 1 1 0 1 2)))]) rfl ?_
    cases h
    exact sd_b_rt rfl rfl rfl
  · rw [if_neg c2] at h
    refine sd_b_zt (c := .ne) (tgt := 35) rfl (decide_eq_true c2) (by decide) ?_
    refine sd_b_go 1 (pc2 := 36) (lv2 := [(1, .inl (r1.1)), (0, .inr (.inr (some (0))))]) (st2 := [.inr (.inr (some (0)))]) rfl ?_
    refine sd_b_gr (k := 5) sd_o_0 rfl rfl rfl ?_
    refine sd_b_gr (k := 0) sd_o_58 rfl rfl rfl ?_
    refine sd_b_go 1 (pc2 := 43) (lv2 := [(1, .inl (r1.1)), (0, .inr (.inr (some (0))))]) (st2 := [.inr (.inr (some (0))), .inr (.inr (some (59)))]) rfl ?_
    refine sd_b_gr (k := 1) sd_o_0 rfl rfl rfl ?_
    refine sd_b_gr (k := 0) sd_o_6 rfl rfl rfl ?_
    obtain ⟨r3, e3, h⟩ := sd_bnd h
    refine sd_b_call [.inr (.inr (some (59))), .inr (.inr (some (7)))] [] rfl rfl sd_i_X8_copyFrom rfl rfl (Nat.le_of_ble_eq_true rfl) (sd_rc_v sd_o_59) (m_X8_copyFrom (by omega) sd_o_59 sd_o_7 e3) ?_
    refine sd_b_go 1 (pc2 := 53) (lv2 := [(1, .inl (r1.1)), (0, .inr (.inr (some (0))))]) (st2 := [.inr (.inr (some (0)))]) rfl ?_
    refine sd_b_gr (k := 5) sd_o_0 rfl rfl rfl ?_
    refine sd_b_gr (k := 1) sd_o_58 rfl rfl rfl ?_
    refine sd_b_go 1 (pc2 := 60) (lv2 := [(1, .inl (r1.1)), (0, .inr (.inr (some (0))))]) (st2 := [.inr (.inr (some (0))), .inr (.inr (some (66)))]) rfl ?_
    refine sd_b_gr (k := 5) sd_o_0 rfl rfl rfl ?_
    refine sd_b_gr (k := 0) sd_o_58 rfl rfl rfl ?_
    obtain ⟨r4, e4, h⟩ := sd_bnd h
    refine sd_b_call [.inr (.inr (some (66))), .inr (.inr (some (59)))] [] rfl rfl sd_i_X0_begin rfl rfl (Nat.le_of_ble_eq_true rfl) (sd_rc_v sd_o_66) (m_X0_begin (by omega) sd_o_66 e4) ?_
    refine sd_b_go 1 (pc2 := 70) (lv2 := [(1, .inl (r1.1)), (0, .inr (.inr (some (0))))]) (st2 := [.inr (.inr (some (0)))]) rfl ?_
    refine sd_b_gr (k := 5) sd_o_0 rfl rfl rfl ?_
    refine sd_b_gr (k := 2) sd_o_58 rfl rfl rfl ?_
    refine sd_b_go 1 (pc2 := 77) (lv2 := [(1, .inl (r1.1)), (0, .inr (.inr (some (0))))]) (st2 := [.inl (0), .inr (.inr (some (74)))]) rfl ?_
    refine sd_b_pi (k := 0) sd_o_74 rfl rfl rfl rfl rfl ?_
    refine sd_b_go 2 (pc2 := 82) (lv2 := [(1, .inl (r1.1)), (0, .inr (.inr (some (0))))]) (st2 := [.inl (0), .inr (.inr (some (0)))]) rfl ?_
    refine sd_b_pi (k := 9) sd_o_0 rfl rfl rfl rfl rfl ?_
    refine sd_b_go 1 (pc2 := 86) (lv2 := [(1, .inl (r1.1)), (0, .inr (.inr (some (0))))]) (st2 := [.inr (.inr (some (0)))]) rfl ?_
    refine sd_b_gr (k := 5) sd_o_0 rfl rfl rfl ?_
    refine sd_b_gr (k := 0) sd_o_58 rfl rfl rfl ?_
    refine sd_b_gi (k := 2) sd_o_59 rfl rfl rfl ?_
    cases h
    exact sd_b_rt rfl rfl rfl
theorem m_X9_slip {X : Nat → List sd_V → List sd_E → sd_A → Prop} {d : Nat} (hd : 6 ≤ d) {M : sd_M} {Rr : Int × sd_M} (h : f_X9_slip M = some Rr) : sd_Cal X d 75 [.inr (.inr (some (0)))] (sd_rp M) (some (.inl Rr.1), sd_rp Rr.2, 0, 0) := by
  obtain ⟨d, rfl⟩ : ∃ d2, d = d2 + 1 := ⟨d - 1, by omega⟩
  exact sd_cal_of sd_i_X9_slip (Nat.le_of_ble_eq_true rfl) (t_X9_slip (by omega) M Rr h)
-- X9_rule
def sd_q_X9_rule : sd_MI := (yX9_rule, cX9_rule, 2, (some .int), 9, 0, sd_t_X9_rule)
set_option maxRecDepth 4000 in
theorem sd_i_X9_rule : sd_mL[76]? = some sd_q_X9_rule := rfl
def f_X9_rule (M : sd_M) : Option (Int × sd_M) := if (M 0 4) < 0 then (some ((-1), M)) else (if (M 0 4) < 6 then (if 0 ≤ (M 0 4) ∧ (M 0 4) < 6 then ((f_X5_reads (16 + 7 * (M 0 4).toNat) M).bind fun r4 => if r4.1 = 0 then (some (sd_w (((-2)) - (sd_s r4.2 1 1 0 1 2)), sd_s r4.2 1 1 0)) else (some (sd_w ((sd_s (sd_s r4.2 1 1 0) 0 4 (sd_w ((sd_s r4.2 1 1 0 0 4) + 1)) 0 4) - 1), sd_s (sd_s r4.2 1 1 0) 0 4 (sd_w ((sd_s r4.2 1 1 0 0 4) + 1))))) else none) else (some ((-1), M)))
set_option maxRecDepth 4000 in
theorem t_X9_rule {d : Nat} (hd : 45 ≤ d) (M : sd_M) (Rr : Int × sd_M) (h : f_X9_rule M = some Rr) : sd_B sd_X d sd_q_X9_rule 0 [(0, .inr (.inr (some (0))))] [] M (some (.inl Rr.1), sd_rp Rr.2, 0, 0) := by
  unfold f_X9_rule at h
  refine sd_b_go 1 (pc2 := 1) (lv2 := [(0, .inr (.inr (some (0))))]) (st2 := [.inr (.inr (some (0)))]) rfl ?_
  refine sd_b_gi (k := 4) sd_o_0 rfl rfl rfl ?_
  by_cases c1 : (M 0 4) < 0
  · rw [if_pos c1] at h
    refine sd_b_zt (c := .lt) (tgt := 16) rfl (decide_eq_true c1) (by decide) ?_
    refine sd_b_go 1 (pc2 := 17) (lv2 := [(0, .inr (.inr (some (0))))]) (st2 := [.inl ((-1))]) rfl ?_
    cases h
    exact sd_b_rt rfl rfl rfl
  · rw [if_neg c1] at h
    refine sd_b_zf (c := .lt) rfl (decide_eq_false c1) (by decide) ?_
    refine sd_b_go 1 (pc2 := 8) (lv2 := [(0, .inr (.inr (some (0))))]) (st2 := [.inr (.inr (some (0)))]) rfl ?_
    refine sd_b_gi (k := 4) sd_o_0 rfl rfl rfl ?_
    refine sd_b_go 1 (pc2 := 13) (lv2 := [(0, .inr (.inr (some (0))))]) (st2 := [.inl (6), .inl (M 0 4)]) rfl ?_
    by_cases c2 : (M 0 4) < 6
    · rw [if_pos c2] at h
      refine sd_b_ct (c := .lt) (tgt := 18) rfl (decide_eq_true c2) (by decide) ?_
      refine sd_b_go 1 (pc2 := 19) (lv2 := [(0, .inr (.inr (some (0))))]) (st2 := [.inr (.inr (some (0)))]) rfl ?_
      refine sd_b_gr (k := 2) sd_o_0 rfl rfl rfl ?_
      refine sd_b_go 1 (pc2 := 23) (lv2 := [(0, .inr (.inr (some (0))))]) (st2 := [.inr (.inr (some (0))), .inr (.inr (some (14)))]) rfl ?_
      refine sd_b_gr (k := 0) sd_o_0 rfl rfl rfl ?_
      refine sd_b_go 1 (pc2 := 27) (lv2 := [(0, .inr (.inr (some (0))))]) (st2 := [.inr (.inr (some (0))), .inr (.inr (some (1))), .inr (.inr (some (14)))]) rfl ?_
      refine sd_b_gr (k := 3) sd_o_0 rfl rfl rfl ?_
      refine sd_b_go 1 (pc2 := 31) (lv2 := [(0, .inr (.inr (some (0))))]) (st2 := [.inr (.inr (some (0))), .inr (.inr (some (15))), .inr (.inr (some (1))), .inr (.inr (some (14)))]) rfl ?_
      refine sd_b_gi (k := 4) sd_o_0 rfl rfl rfl ?_
      obtain ⟨g3, h⟩ := sd_if h
      refine sd_b_ar sd_ra_15 g3 rfl ?_
      obtain ⟨r4, e4, h⟩ := sd_bnd h
      refine sd_b_call [.inr (.inr (some (14))), .inr (.inr (some (1))), .inr (.inr (some (16 + 7 * (M 0 4).toNat)))] [] rfl rfl sd_i_X5_reads rfl rfl (Nat.le_of_ble_eq_true rfl) (sd_rc_v sd_o_14) (m_X5_reads (by omega) (sd_re_15 _ (by omega)) e4) ?_
      refine sd_b_go 2 (pc2 := 40) (lv2 := [(1, .inl (r4.1)), (0, .inr (.inr (some (0))))]) (st2 := [.inr (.inr (some (0)))]) rfl ?_
      refine sd_b_gr (k := 0) sd_o_0 rfl rfl rfl ?_
      refine sd_b_go 1 (pc2 := 44) (lv2 := [(1, .inl (r4.1)), (0, .inr (.inr (some (0))))]) (st2 := [.inl (0), .inr (.inr (some (1)))]) rfl ?_
      refine sd_b_pi (k := 1) sd_o_1 rfl rfl rfl rfl rfl ?_
      refine sd_b_go 1 (pc2 := 48) (lv2 := [(1, .inl (r4.1)), (0, .inr (.inr (some (0))))]) (st2 := [.inl (r4.1)]) rfl ?_
      by_cases c5 : r4.1 = 0
      · rw [if_pos c5] at h
        refine sd_b_zf (c := .ne) rfl (decide_eq_false (not_not_intro c5)) (by decide) ?_
        refine sd_b_go 2 (pc2 := 54) (lv2 := [(1, .inl (r4.1)), (0, .inr (.inr (some (0))))]) (st2 := [.inr (.inr (some (0))), .inl ((-2))]) rfl ?_
        refine sd_b_gr (k := 0) sd_o_0 rfl rfl rfl ?_
        refine sd_b_gi (k := 2) sd_o_1 rfl rfl rfl ?_
        refine sd_b_go 1 (pc2 := 61) (lv2 := [(1, .inl (r4.1)), (0, .inr (.inr (some (0))))]) (st2 := [.inl (sd_w (((-2)) - (sd_s r4.2 1 1 0 1 2)))]) rfl ?_
        cases h
        exact sd_b_rt rfl rfl rfl
      · rw [if_neg c5] at h
        refine sd_b_zt (c := .ne) (tgt := 62) rfl (decide_eq_true c5) (by decide) ?_
        refine sd_b_go 2 (pc2 := 64) (lv2 := [(1, .inl (r4.1)), (0, .inr (.inr (some (0))))]) (st2 := [.inr (.inr (some (0))), .inr (.inr (some (0)))]) rfl ?_
        refine sd_b_gi (k := 4) sd_o_0 rfl rfl rfl ?_
        refine sd_b_go 2 (pc2 := 69) (lv2 := [(1, .inl (r4.1)), (0, .inr (.inr (some (0))))]) (st2 := [.inl (sd_w ((sd_s r4.2 1 1 0 0 4) + 1)), .inr (.inr (some (0)))]) rfl ?_
        refine sd_b_pi (k := 4) sd_o_0 rfl rfl rfl rfl rfl ?_
        refine sd_b_go 1 (pc2 := 73) (lv2 := [(1, .inl (r4.1)), (0, .inr (.inr (some (0))))]) (st2 := [.inr (.inr (some (0)))]) rfl ?_
        refine sd_b_gi (k := 4) sd_o_0 rfl rfl rfl ?_
        refine sd_b_go 2 (pc2 := 78) (lv2 := [(1, .inl (r4.1)), (0, .inr (.inr (some (0))))]) (st2 := [.inl (sd_w ((sd_s (sd_s r4.2 1 1 0) 0 4 (sd_w ((sd_s r4.2 1 1 0 0 4) + 1)) 0 4) - 1))]) rfl ?_
        cases h
        exact sd_b_rt rfl rfl rfl
    · rw [if_neg c2] at h
      refine sd_b_cf (c := .lt) rfl (decide_eq_false c2) (by decide) ?_
      refine sd_b_go 1 (pc2 := 17) (lv2 := [(0, .inr (.inr (some (0))))]) (st2 := [.inl ((-1))]) rfl ?_
      cases h
      exact sd_b_rt rfl rfl rfl
theorem m_X9_rule {d : Nat} (hd : 46 ≤ d) {M : sd_M} {Rr : Int × sd_M} (h : f_X9_rule M = some Rr) : sd_Cal sd_X d 76 [.inr (.inr (some (0)))] (sd_rp M) (some (.inl Rr.1), sd_rp Rr.2, 0, 0) := by
  obtain ⟨d, rfl⟩ : ∃ d2, d = d2 + 1 := ⟨d - 1, by omega⟩
  exact sd_cal_of sd_i_X9_rule (Nat.le_of_ble_eq_true rfl) (t_X9_rule (by omega) M Rr h)
-- X9_day
def sd_q_X9_day : sd_MI := (yX9_day, cX9_day, 2, (some .int), 9, 0, sd_t_X9_day)
set_option maxRecDepth 4000 in
theorem sd_i_X9_day : sd_mL[83]? = some sd_q_X9_day := rfl
def f_X9_day (M : sd_M) : Option (Int × sd_M) := if (M 59 0) = 0 then (some ((-1), M)) else (if (M 66 1) < 999 then ((f_X9_remember M).bind fun r3 => (f_X9_ruleInForce r3.2).bind fun r4 => (f_X1_pass 66 r4.1 r4.2).bind fun r5 => if r5.1 = ((-1)) then (some ((-2), r5.2)) else (some (r5.1, r5.2))) else (some ((-1), M)))
set_option maxRecDepth 4000 in
theorem t_X9_day {X : Nat → List sd_V → List sd_E → sd_A → Prop} {d : Nat} (hd : 6 ≤ d) (M : sd_M) (Rr : Int × sd_M) (h : f_X9_day M = some Rr) : sd_B X d sd_q_X9_day 0 [(0, .inr (.inr (some (0))))] [] M (some (.inl Rr.1), sd_rp Rr.2, 0, 0) := by
  unfold f_X9_day at h
  refine sd_b_go 1 (pc2 := 1) (lv2 := [(0, .inr (.inr (some (0))))]) (st2 := [.inr (.inr (some (0)))]) rfl ?_
  refine sd_b_gr (k := 5) sd_o_0 rfl rfl rfl ?_
  refine sd_b_gr (k := 0) sd_o_58 rfl rfl rfl ?_
  refine sd_b_gi (k := 0) sd_o_59 rfl rfl rfl ?_
  by_cases c1 : (M 59 0) = 0
  · rw [if_pos c1] at h
    refine sd_b_zt (c := .eq) (tgt := 29) rfl (decide_eq_true c1) (by decide) ?_
    refine sd_b_go 1 (pc2 := 30) (lv2 := [(0, .inr (.inr (some (0))))]) (st2 := [.inl ((-1))]) rfl ?_
    cases h
    exact sd_b_rt rfl rfl rfl
  · rw [if_neg c1] at h
    refine sd_b_zf (c := .eq) rfl (decide_eq_false c1) (by decide) ?_
    refine sd_b_go 1 (pc2 := 14) (lv2 := [(0, .inr (.inr (some (0))))]) (st2 := [.inr (.inr (some (0)))]) rfl ?_
    refine sd_b_gr (k := 5) sd_o_0 rfl rfl rfl ?_
    refine sd_b_gr (k := 1) sd_o_58 rfl rfl rfl ?_
    refine sd_b_gi (k := 1) sd_o_66 rfl rfl rfl ?_
    refine sd_b_go 1 (pc2 := 26) (lv2 := [(0, .inr (.inr (some (0))))]) (st2 := [.inl (999), .inl (M 66 1)]) rfl ?_
    by_cases c2 : (M 66 1) < 999
    · rw [if_pos c2] at h
      refine sd_b_ct (c := .lt) (tgt := 31) rfl (decide_eq_true c2) (by decide) ?_
      refine sd_b_go 1 (pc2 := 32) (lv2 := [(0, .inr (.inr (some (0))))]) (st2 := [.inr (.inr (some (0)))]) rfl ?_
      obtain ⟨r3, e3, h⟩ := sd_bnd h
      refine sd_b_call [.inr (.inr (some (0)))] [] rfl rfl sd_i_X9_remember rfl rfl (Nat.le_of_ble_eq_true rfl) (sd_rc_v sd_o_0) (m_X9_remember (by omega) e3) ?_
      refine sd_b_go 1 (pc2 := 36) (lv2 := [(0, .inr (.inr (some (0))))]) (st2 := [.inr (.inr (some (0)))]) rfl ?_
      refine sd_b_gr (k := 11) sd_o_0 rfl rfl rfl ?_
      refine sd_b_go 1 (pc2 := 40) (lv2 := [(0, .inr (.inr (some (0))))]) (st2 := [.inr (.inr (some (0))), .inr (.inr (some (316)))]) rfl ?_
      refine sd_b_gr (k := 5) sd_o_0 rfl rfl rfl ?_
      refine sd_b_gr (k := 1) sd_o_58 rfl rfl rfl ?_
      refine sd_b_go 1 (pc2 := 47) (lv2 := [(0, .inr (.inr (some (0))))]) (st2 := [.inr (.inr (some (0))), .inr (.inr (some (66))), .inr (.inr (some (316)))]) rfl ?_
      refine sd_b_gr (k := 5) sd_o_0 rfl rfl rfl ?_
      refine sd_b_gr (k := 0) sd_o_58 rfl rfl rfl ?_
      refine sd_b_go 1 (pc2 := 54) (lv2 := [(0, .inr (.inr (some (0))))]) (st2 := [.inr (.inr (some (0))), .inr (.inr (some (59))), .inr (.inr (some (66))), .inr (.inr (some (316)))]) rfl ?_
      obtain ⟨r4, e4, h⟩ := sd_bnd h
      refine sd_b_call [.inr (.inr (some (0)))] [.inr (.inr (some (59))), .inr (.inr (some (66))), .inr (.inr (some (316)))] rfl rfl sd_i_X9_ruleInForce rfl rfl (Nat.le_of_ble_eq_true rfl) (sd_rc_v sd_o_0) (m_X9_ruleInForce (by omega) e4) ?_
      obtain ⟨r5, e5, h⟩ := sd_bnd h
      refine sd_b_call [.inr (.inr (some (316))), .inr (.inr (some (66))), .inr (.inr (some (59))), .inr (.inr (r4.1))] [] rfl rfl sd_i_X1_pass rfl rfl (Nat.le_of_ble_eq_true rfl) (sd_rc_v sd_o_316) (m_X1_pass (by omega) sd_o_66 (n_X9_ruleInForce e4) e5) ?_
      refine sd_b_go 3 (pc2 := 63) (lv2 := [(1, .inl (r5.1)), (0, .inr (.inr (some (0))))]) (st2 := [.inl ((-1)), .inl (r5.1)]) rfl ?_
      by_cases c6 : r5.1 = ((-1))
      · rw [if_pos c6] at h
        refine sd_b_cf (c := .ne) rfl (decide_eq_false (not_not_intro c6)) (by decide) ?_
        refine sd_b_go 2 (pc2 := 72) (lv2 := [(1, .inl (r5.1)), (0, .inr (.inr (some (0))))]) (st2 := [.inl ((-2))]) rfl ?_
        cases h
        exact sd_b_rt rfl rfl rfl
      · rw [if_neg c6] at h
        refine sd_b_ct (c := .ne) (tgt := 71) rfl (decide_eq_true c6) (by decide) ?_
        refine sd_b_go 1 (pc2 := 72) (lv2 := [(1, .inl (r5.1)), (0, .inr (.inr (some (0))))]) (st2 := [.inl (r5.1)]) rfl ?_
        cases h
        exact sd_b_rt rfl rfl rfl
    · rw [if_neg c2] at h
      refine sd_b_cf (c := .lt) rfl (decide_eq_false c2) (by decide) ?_
      refine sd_b_go 1 (pc2 := 30) (lv2 := [(0, .inr (.inr (some (0))))]) (st2 := [.inl ((-1))]) rfl ?_
      cases h
      exact sd_b_rt rfl rfl rfl
theorem m_X9_day {X : Nat → List sd_V → List sd_E → sd_A → Prop} {d : Nat} (hd : 7 ≤ d) {M : sd_M} {Rr : Int × sd_M} (h : f_X9_day M = some Rr) : sd_Cal X d 83 [.inr (.inr (some (0)))] (sd_rp M) (some (.inl Rr.1), sd_rp Rr.2, 0, 0) := by
  obtain ⟨d, rfl⟩ : ∃ d2, d = d2 + 1 := ⟨d - 1, by omega⟩
  exact sd_cal_of sd_i_X9_day (Nat.le_of_ble_eq_true rfl) (t_X9_day (by omega) M Rr h)
-- X9_cancel
def sd_q_X9_cancel : sd_MI := (yX9_cancel, cX9_cancel, 2, (some .int), 9, 1, sd_t_X9_cancel)
set_option maxRecDepth 4000 in
theorem sd_i_X9_cancel : sd_mL[84]? = some sd_q_X9_cancel := rfl
def f_X9_cancel (p1 : Int) (M : sd_M) : Option (Int × sd_M) := (f_X9_isLine p1 M).bind fun r1 => if r1.1 = 0 then (some ((-1), r1.2)) else ((f_X9_remember r1.2).bind fun r3 => (f_X0_strike 66 p1 r3.2).bind fun r4 => some (r4.1, r4.2))
set_option maxRecDepth 4000 in
theorem t_X9_cancel {X : Nat → List sd_V → List sd_E → sd_A → Prop} {d : Nat} (hd : 6 ≤ d) (p1 : Int) (M : sd_M) (Rr : Int × sd_M) (h : f_X9_cancel p1 M = some Rr) : sd_B X d sd_q_X9_cancel 0 [(0, .inr (.inr (some (0)))), (1, .inl (p1))] [] M (some (.inl Rr.1), sd_rp Rr.2, 0, 0) := by
  unfold f_X9_cancel at h
  refine sd_b_go 2 (pc2 := 2) (lv2 := [(0, .inr (.inr (some (0)))), (1, .inl (p1))]) (st2 := [.inl (p1), .inr (.inr (some (0)))]) rfl ?_
  obtain ⟨r1, e1, h⟩ := sd_bnd h
  refine sd_b_call [.inr (.inr (some (0))), .inl (p1)] [] rfl rfl sd_i_X9_isLine rfl rfl (Nat.le_of_ble_eq_true rfl) (sd_rc_v sd_o_0) (m_X9_isLine (by omega) e1) ?_
  by_cases c2 : r1.1 = 0
  · rw [if_pos c2] at h
    refine sd_b_zf (c := .ne) rfl (decide_eq_false (not_not_intro c2)) (by decide) ?_
    refine sd_b_go 1 (pc2 := 9) (lv2 := [(0, .inr (.inr (some (0)))), (1, .inl (p1))]) (st2 := [.inl ((-1))]) rfl ?_
    cases h
    exact sd_b_rt rfl rfl rfl
  · rw [if_neg c2] at h
    refine sd_b_zt (c := .ne) (tgt := 10) rfl (decide_eq_true c2) (by decide) ?_
    refine sd_b_go 1 (pc2 := 11) (lv2 := [(0, .inr (.inr (some (0)))), (1, .inl (p1))]) (st2 := [.inr (.inr (some (0)))]) rfl ?_
    obtain ⟨r3, e3, h⟩ := sd_bnd h
    refine sd_b_call [.inr (.inr (some (0)))] [] rfl rfl sd_i_X9_remember rfl rfl (Nat.le_of_ble_eq_true rfl) (sd_rc_v sd_o_0) (m_X9_remember (by omega) e3) ?_
    refine sd_b_go 1 (pc2 := 15) (lv2 := [(0, .inr (.inr (some (0)))), (1, .inl (p1))]) (st2 := [.inr (.inr (some (0)))]) rfl ?_
    refine sd_b_gr (k := 5) sd_o_0 rfl rfl rfl ?_
    refine sd_b_gr (k := 1) sd_o_58 rfl rfl rfl ?_
    refine sd_b_go 2 (pc2 := 23) (lv2 := [(0, .inr (.inr (some (0)))), (1, .inl (p1))]) (st2 := [.inr (.inr (some (0))), .inl (p1), .inr (.inr (some (66)))]) rfl ?_
    refine sd_b_gr (k := 5) sd_o_0 rfl rfl rfl ?_
    refine sd_b_gr (k := 0) sd_o_58 rfl rfl rfl ?_
    obtain ⟨r4, e4, h⟩ := sd_bnd h
    refine sd_b_call [.inr (.inr (some (66))), .inl (p1), .inr (.inr (some (59)))] [] rfl rfl sd_i_X0_strike rfl rfl (Nat.le_of_ble_eq_true rfl) (sd_rc_v sd_o_66) (m_X0_strike (by omega) sd_o_66 e4) ?_
    cases h
    exact sd_b_rt rfl rfl rfl
theorem m_X9_cancel {X : Nat → List sd_V → List sd_E → sd_A → Prop} {d : Nat} (hd : 7 ≤ d) {p1 : Int} {M : sd_M} {Rr : Int × sd_M} (h : f_X9_cancel p1 M = some Rr) : sd_Cal X d 84 [.inr (.inr (some (0))), .inl (p1)] (sd_rp M) (some (.inl Rr.1), sd_rp Rr.2, 0, 0) := by
  obtain ⟨d, rfl⟩ : ∃ d2, d = d2 + 1 := ⟨d - 1, by omega⟩
  exact sd_cal_of sd_i_X9_cancel (Nat.le_of_ble_eq_true rfl) (t_X9_cancel (by omega) p1 M Rr h)
-- X9_would
def sd_q_X9_would : sd_MI := (yX9_would, cX9_would, 3, (some .int), 9, 2, sd_t_X9_would)
set_option maxRecDepth 4000 in
theorem sd_i_X9_would : sd_mL[90]? = some sd_q_X9_would := rfl
def f_X9_would (p1 : Int) (p2 : Int) (M : sd_M) : Option (Int × sd_M) := (f_X9_isLine p1 M).bind fun r1 => if r1.1 = 0 then (some ((-1), r1.2)) else ((f_X9_isNumber p2 r1.2).bind fun r3 => if r3.1 = 0 then (some ((-1), r3.2)) else ((f_X9_signedIfWritten p1 p2 r3.2).bind fun r5 => some (r5.1, r5.2)))
set_option maxRecDepth 4000 in
theorem t_X9_would {X : Nat → List sd_V → List sd_E → sd_A → Prop} {d : Nat} (hd : 6 ≤ d) (p1 : Int) (p2 : Int) (M : sd_M) (Rr : Int × sd_M) (h : f_X9_would p1 p2 M = some Rr) : sd_B X d sd_q_X9_would 0 [(0, .inr (.inr (some (0)))), (1, .inl (p1)), (2, .inl (p2))] [] M (some (.inl Rr.1), sd_rp Rr.2, 0, 0) := by
  unfold f_X9_would at h
  refine sd_b_go 2 (pc2 := 2) (lv2 := [(0, .inr (.inr (some (0)))), (1, .inl (p1)), (2, .inl (p2))]) (st2 := [.inl (p1), .inr (.inr (some (0)))]) rfl ?_
  obtain ⟨r1, e1, h⟩ := sd_bnd h
  refine sd_b_call [.inr (.inr (some (0))), .inl (p1)] [] rfl rfl sd_i_X9_isLine rfl rfl (Nat.le_of_ble_eq_true rfl) (sd_rc_v sd_o_0) (m_X9_isLine (by omega) e1) ?_
  by_cases c2 : r1.1 = 0
  · rw [if_pos c2] at h
    refine sd_b_zt (c := .eq) (tgt := 24) rfl (decide_eq_true c2) (by decide) ?_
    refine sd_b_go 1 (pc2 := 25) (lv2 := [(0, .inr (.inr (some (0)))), (1, .inl (p1)), (2, .inl (p2))]) (st2 := [.inl ((-1))]) rfl ?_
    cases h
    exact sd_b_rt rfl rfl rfl
  · rw [if_neg c2] at h
    refine sd_b_zf (c := .eq) rfl (decide_eq_false c2) (by decide) ?_
    refine sd_b_go 1 (pc2 := 9) (lv2 := [(0, .inr (.inr (some (0)))), (1, .inl (p1)), (2, .inl (p2))]) (st2 := [.inl (p2)]) rfl ?_
    obtain ⟨r3, e3, h⟩ := sd_bnd h
    refine sd_b_call [.inl (p2)] [] rfl rfl sd_i_X9_isNumber rfl rfl (Nat.le_of_ble_eq_true rfl) rfl (m_X9_isNumber (by omega) e3) ?_
    by_cases c4 : r3.1 = 0
    · rw [if_pos c4] at h
      refine sd_b_zt (c := .eq) (tgt := 24) rfl (decide_eq_true c4) (by decide) ?_
      refine sd_b_go 1 (pc2 := 25) (lv2 := [(0, .inr (.inr (some (0)))), (1, .inl (p1)), (2, .inl (p2))]) (st2 := [.inl ((-1))]) rfl ?_
      cases h
      exact sd_b_rt rfl rfl rfl
    · rw [if_neg c4] at h
      refine sd_b_zf (c := .eq) rfl (decide_eq_false c4) (by decide) ?_
      refine sd_b_go 3 (pc2 := 18) (lv2 := [(0, .inr (.inr (some (0)))), (1, .inl (p1)), (2, .inl (p2))]) (st2 := [.inl (p2), .inl (p1), .inr (.inr (some (0)))]) rfl ?_
      obtain ⟨r5, e5, h⟩ := sd_bnd h
      refine sd_b_call [.inr (.inr (some (0))), .inl (p1), .inl (p2)] [] rfl rfl sd_i_X9_signedIfWritten rfl rfl (Nat.le_of_ble_eq_true rfl) (sd_rc_v sd_o_0) (m_X9_signedIfWritten (by omega) e5) ?_
      refine sd_b_go 1 (pc2 := 25) (lv2 := [(0, .inr (.inr (some (0)))), (1, .inl (p1)), (2, .inl (p2))]) (st2 := [.inl (r5.1)]) rfl ?_
      cases h
      exact sd_b_rt rfl rfl rfl
theorem m_X9_would {X : Nat → List sd_V → List sd_E → sd_A → Prop} {d : Nat} (hd : 7 ≤ d) {p1 : Int} {p2 : Int} {M : sd_M} {Rr : Int × sd_M} (h : f_X9_would p1 p2 M = some Rr) : sd_Cal X d 90 [.inr (.inr (some (0))), .inl (p1), .inl (p2)] (sd_rp M) (some (.inl Rr.1), sd_rp Rr.2, 0, 0) := by
  obtain ⟨d, rfl⟩ : ∃ d2, d = d2 + 1 := ⟨d - 1, by omega⟩
  exact sd_cal_of sd_i_X9_would (Nat.le_of_ble_eq_true rfl) (t_X9_would (by omega) p1 p2 M Rr h)
-- X9_least
def sd_q_X9_least : sd_MI := (yX9_least, cX9_least, 4, (some .int), 9, 2, sd_t_X9_least)
set_option maxRecDepth 4000 in
theorem sd_i_X9_least : sd_mL[91]? = some sd_q_X9_least := rfl
def f_X9_least_36 : Nat → Int → Int → Int → sd_M → Option (Int × sd_M)
  | 0, _, _, _, _ => none
  | n + 1, v1, v2, v3, M => if 999 < v3 then (some ((-2), M)) else ((f_X9_signedIfWritten v1 v3 M).bind fun r2 => if r2.1 < v2 then (f_X9_least_36 n v1 v2 (sd_w (v3 + 1)) r2.2) else (some (v3, r2.2)))
set_option maxRecDepth 4000 in
theorem t_X9_least_36 {X : Nat → List sd_V → List sd_E → sd_A → Prop} {d : Nat} (hd : 6 ≤ d) : ∀ (n : Nat) (v1 : Int) (v2 : Int) (v3 : Int) (M : sd_M) (Rr : Int × sd_M), f_X9_least_36 n v1 v2 v3 M = some Rr → sd_B X d sd_q_X9_least 36 [(0, .inr (.inr (some (0)))), (1, .inl (v1)), (2, .inl (v2)), (3, .inl (v3))] [] M (some (.inl Rr.1), sd_rp Rr.2, 0, 0) := by
  intro n
  induction n with
  | zero => intro v1 v2 v3 M Rr h; cases h
  | succ n ih =>
    intro v1 v2 v3 M Rr h
    rw [f_X9_least_36] at h
    refine sd_b_go 2 (pc2 := 40) (lv2 := [(0, .inr (.inr (some (0)))), (1, .inl (v1)), (2, .inl (v2)), (3, .inl (v3))]) (st2 := [.inl (999), .inl (v3)]) rfl ?_
    by_cases c1 : 999 < v3
    · rw [if_pos c1] at h
      refine sd_b_ct (c := .gt) (tgt := 61) rfl (decide_eq_true c1) (by decide) ?_
      refine sd_b_go 1 (pc2 := 63) (lv2 := [(0, .inr (.inr (some (0)))), (1, .inl (v1)), (2, .inl (v2)), (3, .inl (v3))]) (st2 := [.inl ((-2))]) rfl ?_
      cases h
      exact sd_b_rt rfl rfl rfl
    · rw [if_neg c1] at h
      refine sd_b_cf (c := .gt) rfl (decide_eq_false c1) (by decide) ?_
      refine sd_b_go 3 (pc2 := 46) (lv2 := [(0, .inr (.inr (some (0)))), (1, .inl (v1)), (2, .inl (v2)), (3, .inl (v3))]) (st2 := [.inl (v3), .inl (v1), .inr (.inr (some (0)))]) rfl ?_
      obtain ⟨r2, e2, h⟩ := sd_bnd h
      refine sd_b_call [.inr (.inr (some (0))), .inl (v1), .inl (v3)] [] rfl rfl sd_i_X9_signedIfWritten rfl rfl (Nat.le_of_ble_eq_true rfl) (sd_rc_v sd_o_0) (m_X9_signedIfWritten (by omega) e2) ?_
      refine sd_b_go 1 (pc2 := 50) (lv2 := [(0, .inr (.inr (some (0)))), (1, .inl (v1)), (2, .inl (v2)), (3, .inl (v3))]) (st2 := [.inl (v2), .inl (r2.1)]) rfl ?_
      by_cases c3 : r2.1 < v2
      · rw [if_pos c3] at h
        refine sd_b_ct (c := .lt) (tgt := 55) rfl (decide_eq_true c3) (by decide) ?_
        refine sd_b_go 2 (pc2 := 36) (lv2 := [(3, .inl (sd_w (v3 + 1))), (0, .inr (.inr (some (0)))), (1, .inl (v1)), (2, .inl (v2))]) (st2 := []) rfl ?_
        refine sd_b_wk [(0, .inr (.inr (some (0)))), (1, .inl (v1)), (2, .inl (v2)), (3, .inl (sd_w (v3 + 1)))] (List.forall_mem_cons.mpr ⟨rfl, (List.forall_mem_cons.mpr ⟨rfl, (List.forall_mem_cons.mpr ⟨rfl, (List.forall_mem_cons.mpr ⟨rfl, (fun _ h0 => absurd h0 List.not_mem_nil)⟩)⟩)⟩)⟩) ?_
        exact ih v1 v2 (sd_w (v3 + 1)) r2.2 _ h
      · rw [if_neg c3] at h
        refine sd_b_cf (c := .lt) rfl (decide_eq_false c3) (by decide) ?_
        refine sd_b_go 1 (pc2 := 54) (lv2 := [(0, .inr (.inr (some (0)))), (1, .inl (v1)), (2, .inl (v2)), (3, .inl (v3))]) (st2 := [.inl (v3)]) rfl ?_
        cases h
        exact sd_b_rt rfl rfl rfl
def f_X9_least (p1 : Int) (p2 : Int) (M : sd_M) : Option (Int × sd_M) := (f_X9_isLine p1 M).bind fun r1 => if r1.1 = 0 then (some ((-1), r1.2)) else ((f_X9_isNumber p2 r1.2).bind fun r3 => if r3.1 = 0 then (some ((-1), r3.2)) else (if p2 ≤ (r3.2 66 0) then (f_X9_least_36 4000 p1 p2 p2 r3.2) else (some ((-2), r3.2))))
set_option maxRecDepth 4000 in
theorem t_X9_least {X : Nat → List sd_V → List sd_E → sd_A → Prop} {d : Nat} (hd : 6 ≤ d) (p1 : Int) (p2 : Int) (M : sd_M) (Rr : Int × sd_M) (h : f_X9_least p1 p2 M = some Rr) : sd_B X d sd_q_X9_least 0 [(0, .inr (.inr (some (0)))), (1, .inl (p1)), (2, .inl (p2))] [] M (some (.inl Rr.1), sd_rp Rr.2, 0, 0) := by
  unfold f_X9_least at h
  refine sd_b_go 2 (pc2 := 2) (lv2 := [(0, .inr (.inr (some (0)))), (1, .inl (p1)), (2, .inl (p2))]) (st2 := [.inl (p1), .inr (.inr (some (0)))]) rfl ?_
  obtain ⟨r1, e1, h⟩ := sd_bnd h
  refine sd_b_call [.inr (.inr (some (0))), .inl (p1)] [] rfl rfl sd_i_X9_isLine rfl rfl (Nat.le_of_ble_eq_true rfl) (sd_rc_v sd_o_0) (m_X9_isLine (by omega) e1) ?_
  by_cases c2 : r1.1 = 0
  · rw [if_pos c2] at h
    refine sd_b_zt (c := .eq) (tgt := 15) rfl (decide_eq_true c2) (by decide) ?_
    refine sd_b_go 1 (pc2 := 16) (lv2 := [(0, .inr (.inr (some (0)))), (1, .inl (p1)), (2, .inl (p2))]) (st2 := [.inl ((-1))]) rfl ?_
    cases h
    exact sd_b_rt rfl rfl rfl
  · rw [if_neg c2] at h
    refine sd_b_zf (c := .eq) rfl (decide_eq_false c2) (by decide) ?_
    refine sd_b_go 1 (pc2 := 9) (lv2 := [(0, .inr (.inr (some (0)))), (1, .inl (p1)), (2, .inl (p2))]) (st2 := [.inl (p2)]) rfl ?_
    obtain ⟨r3, e3, h⟩ := sd_bnd h
    refine sd_b_call [.inl (p2)] [] rfl rfl sd_i_X9_isNumber rfl rfl (Nat.le_of_ble_eq_true rfl) rfl (m_X9_isNumber (by omega) e3) ?_
    by_cases c4 : r3.1 = 0
    · rw [if_pos c4] at h
      refine sd_b_zf (c := .ne) rfl (decide_eq_false (not_not_intro c4)) (by decide) ?_
      refine sd_b_go 1 (pc2 := 16) (lv2 := [(0, .inr (.inr (some (0)))), (1, .inl (p1)), (2, .inl (p2))]) (st2 := [.inl ((-1))]) rfl ?_
      cases h
      exact sd_b_rt rfl rfl rfl
    · rw [if_neg c4] at h
      refine sd_b_zt (c := .ne) (tgt := 17) rfl (decide_eq_true c4) (by decide) ?_
      refine sd_b_go 2 (pc2 := 19) (lv2 := [(0, .inr (.inr (some (0)))), (1, .inl (p1)), (2, .inl (p2))]) (st2 := [.inr (.inr (some (0))), .inl (p2)]) rfl ?_
      refine sd_b_gr (k := 5) sd_o_0 rfl rfl rfl ?_
      refine sd_b_gr (k := 1) sd_o_58 rfl rfl rfl ?_
      refine sd_b_gi (k := 0) sd_o_66 rfl rfl rfl ?_
      by_cases c5 : p2 ≤ (r3.2 66 0)
      · rw [if_pos c5] at h
        refine sd_b_ct (c := .le) (tgt := 34) rfl (decide_eq_true c5) (by decide) ?_
        refine sd_b_go 2 (pc2 := 36) (lv2 := [(3, .inl (p2)), (0, .inr (.inr (some (0)))), (1, .inl (p1)), (2, .inl (p2))]) (st2 := []) rfl ?_
        refine sd_b_wk [(0, .inr (.inr (some (0)))), (1, .inl (p1)), (2, .inl (p2)), (3, .inl (p2))] (List.forall_mem_cons.mpr ⟨rfl, (List.forall_mem_cons.mpr ⟨rfl, (List.forall_mem_cons.mpr ⟨rfl, (List.forall_mem_cons.mpr ⟨rfl, (fun _ h0 => absurd h0 List.not_mem_nil)⟩)⟩)⟩)⟩) ?_
        exact t_X9_least_36 hd 4000 p1 p2 p2 r3.2 _ h
      · rw [if_neg c5] at h
        refine sd_b_cf (c := .le) rfl (decide_eq_false c5) (by decide) ?_
        refine sd_b_go 1 (pc2 := 33) (lv2 := [(0, .inr (.inr (some (0)))), (1, .inl (p1)), (2, .inl (p2))]) (st2 := [.inl ((-2))]) rfl ?_
        cases h
        exact sd_b_rt rfl rfl rfl
theorem m_X9_least {X : Nat → List sd_V → List sd_E → sd_A → Prop} {d : Nat} (hd : 7 ≤ d) {p1 : Int} {p2 : Int} {M : sd_M} {Rr : Int × sd_M} (h : f_X9_least p1 p2 M = some Rr) : sd_Cal X d 91 [.inr (.inr (some (0))), .inl (p1), .inl (p2)] (sd_rp M) (some (.inl Rr.1), sd_rp Rr.2, 0, 0) := by
  obtain ⟨d, rfl⟩ : ∃ d2, d = d2 + 1 := ⟨d - 1, by omega⟩
  exact sd_cal_of sd_i_X9_least (Nat.le_of_ble_eq_true rfl) (t_X9_least (by omega) p1 p2 M Rr h)
-- X9_tryStriking
def sd_q_X9_tryStriking : sd_MI := (yX9_tryStriking, cX9_tryStriking, 2, none, 9, 1, sd_t_X9_tryStriking)
set_option maxRecDepth 4000 in
theorem sd_i_X9_tryStriking : sd_mL[95]? = some sd_q_X9_tryStriking := rfl
def f_X9_tryStriking (p1 : Int) (M : sd_M) : Option (Int × sd_M) := (f_X0_copyFrom 318 66 M).bind fun r1 => (f_X0_strike 318 p1 r1.2).bind fun r2 => some (0, r2.2)
set_option maxRecDepth 4000 in
theorem t_X9_tryStriking {X : Nat → List sd_V → List sd_E → sd_A → Prop} {d : Nat} (hd : 6 ≤ d) (p1 : Int) (M : sd_M) (Rr : Int × sd_M) (h : f_X9_tryStriking p1 M = some Rr) : sd_B X d sd_q_X9_tryStriking 0 [(0, .inr (.inr (some (0)))), (1, .inl (p1))] [] M (none, sd_rp Rr.2, 0, 0) := by
  unfold f_X9_tryStriking at h
  refine sd_b_go 1 (pc2 := 1) (lv2 := [(0, .inr (.inr (some (0)))), (1, .inl (p1))]) (st2 := [.inr (.inr (some (0)))]) rfl ?_
  refine sd_b_gr (k := 12) sd_o_0 rfl rfl rfl ?_
  refine sd_b_go 1 (pc2 := 5) (lv2 := [(0, .inr (.inr (some (0)))), (1, .inl (p1))]) (st2 := [.inr (.inr (some (0))), .inr (.inr (some (318)))]) rfl ?_
  refine sd_b_gr (k := 5) sd_o_0 rfl rfl rfl ?_
  refine sd_b_gr (k := 1) sd_o_58 rfl rfl rfl ?_
  obtain ⟨r1, e1, h⟩ := sd_bnd h
  refine sd_b_call [.inr (.inr (some (318))), .inr (.inr (some (66)))] [] rfl rfl sd_i_X0_copyFrom rfl rfl (Nat.le_of_ble_eq_true rfl) (sd_rc_v sd_o_318) (m_X0_copyFrom (by omega) sd_o_318 sd_o_66 e1) ?_
  refine sd_b_go 1 (pc2 := 15) (lv2 := [(0, .inr (.inr (some (0)))), (1, .inl (p1))]) (st2 := [.inr (.inr (some (0)))]) rfl ?_
  refine sd_b_gr (k := 12) sd_o_0 rfl rfl rfl ?_
  refine sd_b_go 2 (pc2 := 20) (lv2 := [(0, .inr (.inr (some (0)))), (1, .inl (p1))]) (st2 := [.inr (.inr (some (0))), .inl (p1), .inr (.inr (some (318)))]) rfl ?_
  refine sd_b_gr (k := 5) sd_o_0 rfl rfl rfl ?_
  refine sd_b_gr (k := 0) sd_o_58 rfl rfl rfl ?_
  obtain ⟨r2, e2, h⟩ := sd_bnd h
  refine sd_b_call [.inr (.inr (some (318))), .inl (p1), .inr (.inr (some (59)))] [] rfl rfl sd_i_X0_strike rfl rfl (Nat.le_of_ble_eq_true rfl) (sd_rc_v sd_o_318) (m_X0_strike (by omega) sd_o_318 e2) ?_
  refine sd_b_go 1 (pc2 := 30) (lv2 := [(0, .inr (.inr (some (0)))), (1, .inl (p1))]) (st2 := []) rfl ?_
  cases h
  exact sd_b_rt rfl rfl rfl
theorem m_X9_tryStriking {X : Nat → List sd_V → List sd_E → sd_A → Prop} {d : Nat} (hd : 7 ≤ d) {p1 : Int} {M : sd_M} {Rr : Int × sd_M} (h : f_X9_tryStriking p1 M = some Rr) : sd_Cal X d 95 [.inr (.inr (some (0))), .inl (p1)] (sd_rp M) (none, sd_rp Rr.2, 0, 0) := by
  obtain ⟨d, rfl⟩ : ∃ d2, d = d2 + 1 := ⟨d - 1, by omega⟩
  exact sd_cal_of sd_i_X9_tryStriking (Nat.le_of_ble_eq_true rfl) (t_X9_tryStriking (by omega) p1 M Rr h)
-- X9_rows
def sd_q_X9_rows : sd_MI := (yX9_rows, cX9_rows, 8, (some .int), 9, 1, sd_t_X9_rows)
set_option maxRecDepth 4000 in
theorem sd_i_X9_rows : sd_mL[99]? = some sd_q_X9_rows := rfl
def f_X9_rows_59 (k76 : Int → Int → Int → sd_M → Option (Int × sd_M)) : Nat → Int → Int → Int → Int → sd_M → Option (Int × sd_M)
  | 0, _, _, _, _, _ => none
  | n + 1, v1, v2, v3, v4, M => if v2 < v4 then (k76 v1 v2 v3 M) else (f_X9_rows_59 k76 n v1 v2 (sd_w (v3 * v4)) (sd_w (v4 + 1)) M)
set_option maxRecDepth 4000 in
theorem t_X9_rows_59 {X : Nat → List sd_V → List sd_E → sd_A → Prop} {d : Nat} (hd : 6 ≤ d) (k76 : Int → Int → Int → sd_M → Option (Int × sd_M)) (hk76 : ∀ (v1 : Int) (v2 : Int) (v3 : Int) (M : sd_M) (Rr : Int × sd_M), k76 v1 v2 v3 M = some Rr → sd_B X d sd_q_X9_rows 76 [(0, .inr (.inr (some (0)))), (1, .inl (v1)), (2, .inl (v2)), (3, .inl (v3))] [] M (some (.inl Rr.1), sd_rp Rr.2, 0, 0)) : ∀ (n : Nat) (v1 : Int) (v2 : Int) (v3 : Int) (v4 : Int) (M : sd_M) (Rr : Int × sd_M), f_X9_rows_59 k76 n v1 v2 v3 v4 M = some Rr → sd_B X d sd_q_X9_rows 59 [(0, .inr (.inr (some (0)))), (1, .inl (v1)), (2, .inl (v2)), (3, .inl (v3)), (4, .inl (v4))] [] M (some (.inl Rr.1), sd_rp Rr.2, 0, 0) := by
  intro n
  induction n with
  | zero => intro v1 v2 v3 v4 M Rr h; cases h
  | succ n ih =>
    intro v1 v2 v3 v4 M Rr h
    rw [f_X9_rows_59] at h
    refine sd_b_go 2 (pc2 := 62) (lv2 := [(0, .inr (.inr (some (0)))), (1, .inl (v1)), (2, .inl (v2)), (3, .inl (v3)), (4, .inl (v4))]) (st2 := [.inl (v2), .inl (v4)]) rfl ?_
    by_cases c1 : v2 < v4
    · rw [if_pos c1] at h
      refine sd_b_ct (c := .gt) (tgt := 76) rfl (decide_eq_true c1) (by decide) ?_
      refine sd_b_wk [(0, .inr (.inr (some (0)))), (1, .inl (v1)), (2, .inl (v2)), (3, .inl (v3))] (List.forall_mem_cons.mpr ⟨rfl, (List.forall_mem_cons.mpr ⟨rfl, (List.forall_mem_cons.mpr ⟨rfl, (List.forall_mem_cons.mpr ⟨rfl, (fun _ h0 => absurd h0 List.not_mem_nil)⟩)⟩)⟩)⟩) ?_
      exact hk76 v1 v2 v3 M _ h
    · rw [if_neg c1] at h
      refine sd_b_cf (c := .gt) rfl (decide_eq_false c1) (by decide) ?_
      refine sd_b_go 6 (pc2 := 59) (lv2 := [(4, .inl (sd_w (v4 + 1))), (3, .inl (sd_w (v3 * v4))), (0, .inr (.inr (some (0)))), (1, .inl (v1)), (2, .inl (v2))]) (st2 := []) rfl ?_
      refine sd_b_wk [(0, .inr (.inr (some (0)))), (1, .inl (v1)), (2, .inl (v2)), (3, .inl (sd_w (v3 * v4))), (4, .inl (sd_w (v4 + 1)))] (List.forall_mem_cons.mpr ⟨rfl, (List.forall_mem_cons.mpr ⟨rfl, (List.forall_mem_cons.mpr ⟨rfl, (List.forall_mem_cons.mpr ⟨rfl, (List.forall_mem_cons.mpr ⟨rfl, (fun _ h0 => absurd h0 List.not_mem_nil)⟩)⟩)⟩)⟩)⟩) ?_
      exact ih v1 v2 (sd_w (v3 * v4)) (sd_w (v4 + 1)) M _ h
def f_X9_rows_188 (k85 : Int → Int → Int → Int → Int → Int → sd_M → Option (Int × sd_M)) (k194 : Int → Int → Int → Int → sd_M → Option (Int × sd_M)) (v1 : Int) (v2 : Int) (v3 : Int) (v4 : Int) (v5 : Int) (v6 : Int) (M : sd_M) : Option (Int × sd_M) := k85 v1 v2 v3 v4 v5 (sd_w (v6 + 1)) M
set_option maxRecDepth 4000 in
theorem t_X9_rows_188 {X : Nat → List sd_V → List sd_E → sd_A → Prop} {d : Nat} (hd : 6 ≤ d) (k85 : Int → Int → Int → Int → Int → Int → sd_M → Option (Int × sd_M)) (k194 : Int → Int → Int → Int → sd_M → Option (Int × sd_M)) (hk85 : ∀ (v1 : Int) (v2 : Int) (v3 : Int) (v4 : Int) (v5 : Int) (v6 : Int) (M : sd_M) (Rr : Int × sd_M), k85 v1 v2 v3 v4 v5 v6 M = some Rr → sd_B X d sd_q_X9_rows 85 [(0, .inr (.inr (some (0)))), (1, .inl (v1)), (2, .inl (v2)), (3, .inl (v3)), (4, .inl (v4)), (5, .inl (v5)), (6, .inl (v6))] [] M (some (.inl Rr.1), sd_rp Rr.2, 0, 0)) (hk194 : ∀ (v1 : Int) (v2 : Int) (v4 : Int) (v5 : Int) (M : sd_M) (Rr : Int × sd_M), k194 v1 v2 v4 v5 M = some Rr → sd_B X d sd_q_X9_rows 194 [(0, .inr (.inr (some (0)))), (1, .inl (v1)), (2, .inl (v2)), (4, .inl (v4)), (5, .inl (v5))] [] M (some (.inl Rr.1), sd_rp Rr.2, 0, 0)) (v1 : Int) (v2 : Int) (v3 : Int) (v4 : Int) (v5 : Int) (v6 : Int) (M : sd_M) (Rr : Int × sd_M) (h : f_X9_rows_188 k85 k194 v1 v2 v3 v4 v5 v6 M = some Rr) : sd_B X d sd_q_X9_rows 188 [(0, .inr (.inr (some (0)))), (1, .inl (v1)), (2, .inl (v2)), (3, .inl (v3)), (4, .inl (v4)), (5, .inl (v5)), (6, .inl (v6))] [] M (some (.inl Rr.1), sd_rp Rr.2, 0, 0) := by
  unfold f_X9_rows_188 at h
  refine sd_b_go 2 (pc2 := 85) (lv2 := [(6, .inl (sd_w (v6 + 1))), (0, .inr (.inr (some (0)))), (1, .inl (v1)), (2, .inl (v2)), (3, .inl (v3)), (4, .inl (v4)), (5, .inl (v5))]) (st2 := []) rfl ?_
  refine sd_b_wk [(0, .inr (.inr (some (0)))), (1, .inl (v1)), (2, .inl (v2)), (3, .inl (v3)), (4, .inl (v4)), (5, .inl (v5)), (6, .inl (sd_w (v6 + 1)))] (List.forall_mem_cons.mpr ⟨rfl, (List.forall_mem_cons.mpr ⟨rfl, (List.forall_mem_cons.mpr ⟨rfl, (List.forall_mem_cons.mpr ⟨rfl, (List.forall_mem_cons.mpr ⟨rfl, (List.forall_mem_cons.mpr ⟨rfl, (List.forall_mem_cons.mpr ⟨rfl, (fun _ h0 => absurd h0 List.not_mem_nil)⟩)⟩)⟩)⟩)⟩)⟩)⟩) ?_
  exact hk85 v1 v2 v3 v4 v5 (sd_w (v6 + 1)) M _ h
def f_X9_rows_156 (k85 : Int → Int → Int → Int → Int → Int → sd_M → Option (Int × sd_M)) (k194 : Int → Int → Int → Int → sd_M → Option (Int × sd_M)) (v1 : Int) (v2 : Int) (v3 : Int) (v6 : Int) (M : sd_M) : Option (Int × sd_M) := (f_X0_lacking 318 M).bind fun r1 => f_X9_rows_188 k85 k194 v1 v2 v3 r1.1 (r1.2 318 3) v6 (sd_cp r1.2 327 328 4)
set_option maxRecDepth 4000 in
theorem t_X9_rows_156 {X : Nat → List sd_V → List sd_E → sd_A → Prop} {d : Nat} (hd : 6 ≤ d) (k85 : Int → Int → Int → Int → Int → Int → sd_M → Option (Int × sd_M)) (k194 : Int → Int → Int → Int → sd_M → Option (Int × sd_M)) (hk85 : ∀ (v1 : Int) (v2 : Int) (v3 : Int) (v4 : Int) (v5 : Int) (v6 : Int) (M : sd_M) (Rr : Int × sd_M), k85 v1 v2 v3 v4 v5 v6 M = some Rr → sd_B X d sd_q_X9_rows 85 [(0, .inr (.inr (some (0)))), (1, .inl (v1)), (2, .inl (v2)), (3, .inl (v3)), (4, .inl (v4)), (5, .inl (v5)), (6, .inl (v6))] [] M (some (.inl Rr.1), sd_rp Rr.2, 0, 0)) (hk194 : ∀ (v1 : Int) (v2 : Int) (v4 : Int) (v5 : Int) (M : sd_M) (Rr : Int × sd_M), k194 v1 v2 v4 v5 M = some Rr → sd_B X d sd_q_X9_rows 194 [(0, .inr (.inr (some (0)))), (1, .inl (v1)), (2, .inl (v2)), (4, .inl (v4)), (5, .inl (v5))] [] M (some (.inl Rr.1), sd_rp Rr.2, 0, 0)) (v1 : Int) (v2 : Int) (v3 : Int) (v6 : Int) (M : sd_M) (Rr : Int × sd_M) (h : f_X9_rows_156 k85 k194 v1 v2 v3 v6 M = some Rr) : sd_B X d sd_q_X9_rows 156 [(0, .inr (.inr (some (0)))), (1, .inl (v1)), (2, .inl (v2)), (3, .inl (v3)), (6, .inl (v6))] [] M (some (.inl Rr.1), sd_rp Rr.2, 0, 0) := by
  unfold f_X9_rows_156 at h
  refine sd_b_go 1 (pc2 := 157) (lv2 := [(0, .inr (.inr (some (0)))), (1, .inl (v1)), (2, .inl (v2)), (3, .inl (v3)), (6, .inl (v6))]) (st2 := [.inr (.inr (some (0)))]) rfl ?_
  refine sd_b_gr (k := 12) sd_o_0 rfl rfl rfl ?_
  obtain ⟨r1, e1, h⟩ := sd_bnd h
  refine sd_b_call [.inr (.inr (some (318)))] [] rfl rfl sd_i_X0_lacking rfl rfl (Nat.le_of_ble_eq_true rfl) (sd_rc_v sd_o_318) (m_X0_lacking (by omega) sd_o_318 e1) ?_
  refine sd_b_go 2 (pc2 := 166) (lv2 := [(4, .inl (r1.1)), (0, .inr (.inr (some (0)))), (1, .inl (v1)), (2, .inl (v2)), (3, .inl (v3)), (6, .inl (v6))]) (st2 := [.inr (.inr (some (0)))]) rfl ?_
  refine sd_b_gr (k := 12) sd_o_0 rfl rfl rfl ?_
  refine sd_b_gi (k := 3) sd_o_318 rfl rfl rfl ?_
  refine sd_b_go 2 (pc2 := 175) (lv2 := [(5, .inl (r1.2 318 3)), (4, .inl (r1.1)), (0, .inr (.inr (some (0)))), (1, .inl (v1)), (2, .inl (v2)), (3, .inl (v3)), (6, .inl (v6))]) (st2 := [.inr (.inr (some (0)))]) rfl ?_
  refine sd_b_gr (k := 14) sd_o_0 rfl rfl rfl ?_
  refine sd_b_go 2 (pc2 := 180) (lv2 := [(5, .inl (r1.2 318 3)), (4, .inl (r1.1)), (0, .inr (.inr (some (0)))), (1, .inl (v1)), (2, .inl (v2)), (3, .inl (v3)), (6, .inl (v6))]) (st2 := [.inr (.inr (some (0))), .inl (0), .inr (.inr (some (327)))]) rfl ?_
  refine sd_b_gr (k := 15) sd_o_0 rfl rfl rfl ?_
  refine sd_b_go 2 (pc2 := 185) (lv2 := [(5, .inl (r1.2 318 3)), (4, .inl (r1.1)), (0, .inr (.inr (some (0)))), (1, .inl (v1)), (2, .inl (v2)), (3, .inl (v3)), (6, .inl (v6))]) (st2 := [.inl (4), .inl (0), .inr (.inr (some (328))), .inl (0), .inr (.inr (some (327)))]) rfl ?_
  refine sd_b_cp (n := 4) (sd_oa sd_o_0 (by decide) (off := 327) (List.mem_of_getElem? (i := 2) rfl)) (sd_oa sd_o_0 (by decide) (off := 328) (List.mem_of_getElem? (i := 3) rfl)) (by decide) (by decide) (Nat.le_of_ble_eq_true rfl) rfl rfl ?_
  refine sd_b_wk [(0, .inr (.inr (some (0)))), (1, .inl (v1)), (2, .inl (v2)), (3, .inl (v3)), (4, .inl (r1.1)), (5, .inl (r1.2 318 3)), (6, .inl (v6))] (List.forall_mem_cons.mpr ⟨rfl, (List.forall_mem_cons.mpr ⟨rfl, (List.forall_mem_cons.mpr ⟨rfl, (List.forall_mem_cons.mpr ⟨rfl, (List.forall_mem_cons.mpr ⟨rfl, (List.forall_mem_cons.mpr ⟨rfl, (List.forall_mem_cons.mpr ⟨rfl, (fun _ h0 => absurd h0 List.not_mem_nil)⟩)⟩)⟩)⟩)⟩)⟩)⟩) ?_
  exact t_X9_rows_188 hd k85 k194 hk85 hk194 v1 v2 v3 r1.1 (r1.2 318 3) v6 (sd_cp r1.2 327 328 4) _ h
def f_X9_rows_144 (k85 : Int → Int → Int → Int → Int → Int → sd_M → Option (Int × sd_M)) (k194 : Int → Int → Int → Int → sd_M → Option (Int × sd_M)) (v1 : Int) (v2 : Int) (v3 : Int) (v4 : Int) (v5 : Int) (v6 : Int) (s0 : Int) (M : sd_M) : Option (Int × sd_M) := if v6 = 0 then (f_X9_rows_156 k85 k194 v1 v2 v3 v6 M) else (if s0 = 0 then (f_X9_rows_188 k85 k194 v1 v2 v3 v4 v5 v6 M) else (f_X9_rows_156 k85 k194 v1 v2 v3 v6 M))
set_option maxRecDepth 4000 in
theorem t_X9_rows_144 {X : Nat → List sd_V → List sd_E → sd_A → Prop} {d : Nat} (hd : 6 ≤ d) (k85 : Int → Int → Int → Int → Int → Int → sd_M → Option (Int × sd_M)) (k194 : Int → Int → Int → Int → sd_M → Option (Int × sd_M)) (hk85 : ∀ (v1 : Int) (v2 : Int) (v3 : Int) (v4 : Int) (v5 : Int) (v6 : Int) (M : sd_M) (Rr : Int × sd_M), k85 v1 v2 v3 v4 v5 v6 M = some Rr → sd_B X d sd_q_X9_rows 85 [(0, .inr (.inr (some (0)))), (1, .inl (v1)), (2, .inl (v2)), (3, .inl (v3)), (4, .inl (v4)), (5, .inl (v5)), (6, .inl (v6))] [] M (some (.inl Rr.1), sd_rp Rr.2, 0, 0)) (hk194 : ∀ (v1 : Int) (v2 : Int) (v4 : Int) (v5 : Int) (M : sd_M) (Rr : Int × sd_M), k194 v1 v2 v4 v5 M = some Rr → sd_B X d sd_q_X9_rows 194 [(0, .inr (.inr (some (0)))), (1, .inl (v1)), (2, .inl (v2)), (4, .inl (v4)), (5, .inl (v5))] [] M (some (.inl Rr.1), sd_rp Rr.2, 0, 0)) (v1 : Int) (v2 : Int) (v3 : Int) (v4 : Int) (v5 : Int) (v6 : Int) (s0 : Int) (M : sd_M) (Rr : Int × sd_M) (h : f_X9_rows_144 k85 k194 v1 v2 v3 v4 v5 v6 s0 M = some Rr) : sd_B X d sd_q_X9_rows 144 [(0, .inr (.inr (some (0)))), (1, .inl (v1)), (2, .inl (v2)), (3, .inl (v3)), (4, .inl (v4)), (5, .inl (v5)), (6, .inl (v6))] [.inl (s0)] M (some (.inl Rr.1), sd_rp Rr.2, 0, 0) := by
  unfold f_X9_rows_144 at h
  refine sd_b_go 2 (pc2 := 148) (lv2 := [(7, .inl (s0)), (0, .inr (.inr (some (0)))), (1, .inl (v1)), (2, .inl (v2)), (3, .inl (v3)), (4, .inl (v4)), (5, .inl (v5)), (6, .inl (v6))]) (st2 := [.inl (v6)]) rfl ?_
  by_cases c1 : v6 = 0
  · rw [if_pos c1] at h
    refine sd_b_zt (c := .eq) (tgt := 156) rfl (decide_eq_true c1) (by decide) ?_
    refine sd_b_wk [(0, .inr (.inr (some (0)))), (1, .inl (v1)), (2, .inl (v2)), (3, .inl (v3)), (6, .inl (v6))] (List.forall_mem_cons.mpr ⟨rfl, (List.forall_mem_cons.mpr ⟨rfl, (List.forall_mem_cons.mpr ⟨rfl, (List.forall_mem_cons.mpr ⟨rfl, (List.forall_mem_cons.mpr ⟨rfl, (fun _ h0 => absurd h0 List.not_mem_nil)⟩)⟩)⟩)⟩)⟩) ?_
    exact t_X9_rows_156 hd k85 k194 hk85 hk194 v1 v2 v3 v6 M _ h
  · rw [if_neg c1] at h
    refine sd_b_zf (c := .eq) rfl (decide_eq_false c1) (by decide) ?_
    refine sd_b_go 1 (pc2 := 153) (lv2 := [(7, .inl (s0)), (0, .inr (.inr (some (0)))), (1, .inl (v1)), (2, .inl (v2)), (3, .inl (v3)), (4, .inl (v4)), (5, .inl (v5)), (6, .inl (v6))]) (st2 := [.inl (s0)]) rfl ?_
    by_cases c2 : s0 = 0
    · rw [if_pos c2] at h
      refine sd_b_zt (c := .eq) (tgt := 188) rfl (decide_eq_true c2) (by decide) ?_
      refine sd_b_wk [(0, .inr (.inr (some (0)))), (1, .inl (v1)), (2, .inl (v2)), (3, .inl (v3)), (4, .inl (v4)), (5, .inl (v5)), (6, .inl (v6))] (List.forall_mem_cons.mpr ⟨rfl, (List.forall_mem_cons.mpr ⟨rfl, (List.forall_mem_cons.mpr ⟨rfl, (List.forall_mem_cons.mpr ⟨rfl, (List.forall_mem_cons.mpr ⟨rfl, (List.forall_mem_cons.mpr ⟨rfl, (List.forall_mem_cons.mpr ⟨rfl, (fun _ h0 => absurd h0 List.not_mem_nil)⟩)⟩)⟩)⟩)⟩)⟩)⟩) ?_
      exact t_X9_rows_188 hd k85 k194 hk85 hk194 v1 v2 v3 v4 v5 v6 M _ h
    · rw [if_neg c2] at h
      refine sd_b_zf (c := .eq) rfl (decide_eq_false c2) (by decide) ?_
      refine sd_b_wk [(0, .inr (.inr (some (0)))), (1, .inl (v1)), (2, .inl (v2)), (3, .inl (v3)), (6, .inl (v6))] (List.forall_mem_cons.mpr ⟨rfl, (List.forall_mem_cons.mpr ⟨rfl, (List.forall_mem_cons.mpr ⟨rfl, (List.forall_mem_cons.mpr ⟨rfl, (List.forall_mem_cons.mpr ⟨rfl, (fun _ h0 => absurd h0 List.not_mem_nil)⟩)⟩)⟩)⟩)⟩) ?_
      exact t_X9_rows_156 hd k85 k194 hk85 hk194 v1 v2 v3 v6 M _ h
def f_X9_rows_139 (k85 : Int → Int → Int → Int → Int → Int → sd_M → Option (Int × sd_M)) (k194 : Int → Int → Int → Int → sd_M → Option (Int × sd_M)) (v1 : Int) (v2 : Int) (v3 : Int) (v4 : Int) (v5 : Int) (v6 : Int) (M : sd_M) : Option (Int × sd_M) := f_X9_rows_144 k85 k194 v1 v2 v3 v4 v5 v6 1 M
set_option maxRecDepth 4000 in
theorem t_X9_rows_139 {X : Nat → List sd_V → List sd_E → sd_A → Prop} {d : Nat} (hd : 6 ≤ d) (k85 : Int → Int → Int → Int → Int → Int → sd_M → Option (Int × sd_M)) (k194 : Int → Int → Int → Int → sd_M → Option (Int × sd_M)) (hk85 : ∀ (v1 : Int) (v2 : Int) (v3 : Int) (v4 : Int) (v5 : Int) (v6 : Int) (M : sd_M) (Rr : Int × sd_M), k85 v1 v2 v3 v4 v5 v6 M = some Rr → sd_B X d sd_q_X9_rows 85 [(0, .inr (.inr (some (0)))), (1, .inl (v1)), (2, .inl (v2)), (3, .inl (v3)), (4, .inl (v4)), (5, .inl (v5)), (6, .inl (v6))] [] M (some (.inl Rr.1), sd_rp Rr.2, 0, 0)) (hk194 : ∀ (v1 : Int) (v2 : Int) (v4 : Int) (v5 : Int) (M : sd_M) (Rr : Int × sd_M), k194 v1 v2 v4 v5 M = some Rr → sd_B X d sd_q_X9_rows 194 [(0, .inr (.inr (some (0)))), (1, .inl (v1)), (2, .inl (v2)), (4, .inl (v4)), (5, .inl (v5))] [] M (some (.inl Rr.1), sd_rp Rr.2, 0, 0)) (v1 : Int) (v2 : Int) (v3 : Int) (v4 : Int) (v5 : Int) (v6 : Int) (M : sd_M) (Rr : Int × sd_M) (h : f_X9_rows_139 k85 k194 v1 v2 v3 v4 v5 v6 M = some Rr) : sd_B X d sd_q_X9_rows 139 [(0, .inr (.inr (some (0)))), (1, .inl (v1)), (2, .inl (v2)), (3, .inl (v3)), (4, .inl (v4)), (5, .inl (v5)), (6, .inl (v6))] [] M (some (.inl Rr.1), sd_rp Rr.2, 0, 0) := by
  unfold f_X9_rows_139 at h
  refine sd_b_go 2 (pc2 := 144) (lv2 := [(0, .inr (.inr (some (0)))), (1, .inl (v1)), (2, .inl (v2)), (3, .inl (v3)), (4, .inl (v4)), (5, .inl (v5)), (6, .inl (v6))]) (st2 := [.inl (1)]) rfl ?_
  refine sd_b_wk [(0, .inr (.inr (some (0)))), (1, .inl (v1)), (2, .inl (v2)), (3, .inl (v3)), (4, .inl (v4)), (5, .inl (v5)), (6, .inl (v6))] (List.forall_mem_cons.mpr ⟨rfl, (List.forall_mem_cons.mpr ⟨rfl, (List.forall_mem_cons.mpr ⟨rfl, (List.forall_mem_cons.mpr ⟨rfl, (List.forall_mem_cons.mpr ⟨rfl, (List.forall_mem_cons.mpr ⟨rfl, (List.forall_mem_cons.mpr ⟨rfl, (fun _ h0 => absurd h0 List.not_mem_nil)⟩)⟩)⟩)⟩)⟩)⟩)⟩) ?_
  exact t_X9_rows_144 hd k85 k194 hk85 hk194 v1 v2 v3 v4 v5 v6 1 M _ h
def f_X9_rows_143 (k85 : Int → Int → Int → Int → Int → Int → sd_M → Option (Int × sd_M)) (k194 : Int → Int → Int → Int → sd_M → Option (Int × sd_M)) (v1 : Int) (v2 : Int) (v3 : Int) (v4 : Int) (v5 : Int) (v6 : Int) (M : sd_M) : Option (Int × sd_M) := f_X9_rows_144 k85 k194 v1 v2 v3 v4 v5 v6 0 M
set_option maxRecDepth 4000 in
theorem t_X9_rows_143 {X : Nat → List sd_V → List sd_E → sd_A → Prop} {d : Nat} (hd : 6 ≤ d) (k85 : Int → Int → Int → Int → Int → Int → sd_M → Option (Int × sd_M)) (k194 : Int → Int → Int → Int → sd_M → Option (Int × sd_M)) (hk85 : ∀ (v1 : Int) (v2 : Int) (v3 : Int) (v4 : Int) (v5 : Int) (v6 : Int) (M : sd_M) (Rr : Int × sd_M), k85 v1 v2 v3 v4 v5 v6 M = some Rr → sd_B X d sd_q_X9_rows 85 [(0, .inr (.inr (some (0)))), (1, .inl (v1)), (2, .inl (v2)), (3, .inl (v3)), (4, .inl (v4)), (5, .inl (v5)), (6, .inl (v6))] [] M (some (.inl Rr.1), sd_rp Rr.2, 0, 0)) (hk194 : ∀ (v1 : Int) (v2 : Int) (v4 : Int) (v5 : Int) (M : sd_M) (Rr : Int × sd_M), k194 v1 v2 v4 v5 M = some Rr → sd_B X d sd_q_X9_rows 194 [(0, .inr (.inr (some (0)))), (1, .inl (v1)), (2, .inl (v2)), (4, .inl (v4)), (5, .inl (v5))] [] M (some (.inl Rr.1), sd_rp Rr.2, 0, 0)) (v1 : Int) (v2 : Int) (v3 : Int) (v4 : Int) (v5 : Int) (v6 : Int) (M : sd_M) (Rr : Int × sd_M) (h : f_X9_rows_143 k85 k194 v1 v2 v3 v4 v5 v6 M = some Rr) : sd_B X d sd_q_X9_rows 143 [(0, .inr (.inr (some (0)))), (1, .inl (v1)), (2, .inl (v2)), (3, .inl (v3)), (4, .inl (v4)), (5, .inl (v5)), (6, .inl (v6))] [] M (some (.inl Rr.1), sd_rp Rr.2, 0, 0) := by
  unfold f_X9_rows_143 at h
  refine sd_b_go 1 (pc2 := 144) (lv2 := [(0, .inr (.inr (some (0)))), (1, .inl (v1)), (2, .inl (v2)), (3, .inl (v3)), (4, .inl (v4)), (5, .inl (v5)), (6, .inl (v6))]) (st2 := [.inl (0)]) rfl ?_
  refine sd_b_wk [(0, .inr (.inr (some (0)))), (1, .inl (v1)), (2, .inl (v2)), (3, .inl (v3)), (4, .inl (v4)), (5, .inl (v5)), (6, .inl (v6))] (List.forall_mem_cons.mpr ⟨rfl, (List.forall_mem_cons.mpr ⟨rfl, (List.forall_mem_cons.mpr ⟨rfl, (List.forall_mem_cons.mpr ⟨rfl, (List.forall_mem_cons.mpr ⟨rfl, (List.forall_mem_cons.mpr ⟨rfl, (List.forall_mem_cons.mpr ⟨rfl, (fun _ h0 => absurd h0 List.not_mem_nil)⟩)⟩)⟩)⟩)⟩)⟩)⟩) ?_
  exact t_X9_rows_144 hd k85 k194 hk85 hk194 v1 v2 v3 v4 v5 v6 0 M _ h
def f_X9_rows_85 (k194 : Int → Int → Int → Int → sd_M → Option (Int × sd_M)) : Nat → Int → Int → Int → Int → Int → Int → sd_M → Option (Int × sd_M)
  | 0, _, _, _, _, _, _, _ => none
  | n + 1, v1, v2, v3, v4, v5, v6, M => if v3 ≤ v6 then (k194 v1 v2 v4 v5 M) else ((f_X9_layRow v6 v2 M).bind fun r2 => (f_X9_takeRow v2 r2.2).bind fun r3 => (f_X0_lacking 318 r3.2).bind fun r4 => if r4.1 < v4 then (f_X9_rows_139 (f_X9_rows_85 k194 n) k194 v1 v2 v3 v4 v5 v6 r4.2) else ((f_X0_lacking 318 r4.2).bind fun r6 => if r6.1 = v4 then (if (r6.2 318 3) ≤ v5 then (f_X9_rows_143 (f_X9_rows_85 k194 n) k194 v1 v2 v3 v4 v5 v6 r6.2) else (f_X9_rows_139 (f_X9_rows_85 k194 n) k194 v1 v2 v3 v4 v5 v6 r6.2)) else (f_X9_rows_143 (f_X9_rows_85 k194 n) k194 v1 v2 v3 v4 v5 v6 r6.2)))
set_option maxRecDepth 4000 in
theorem t_X9_rows_85 {X : Nat → List sd_V → List sd_E → sd_A → Prop} {d : Nat} (hd : 6 ≤ d) (k194 : Int → Int → Int → Int → sd_M → Option (Int × sd_M)) (hk194 : ∀ (v1 : Int) (v2 : Int) (v4 : Int) (v5 : Int) (M : sd_M) (Rr : Int × sd_M), k194 v1 v2 v4 v5 M = some Rr → sd_B X d sd_q_X9_rows 194 [(0, .inr (.inr (some (0)))), (1, .inl (v1)), (2, .inl (v2)), (4, .inl (v4)), (5, .inl (v5))] [] M (some (.inl Rr.1), sd_rp Rr.2, 0, 0)) : ∀ (n : Nat) (v1 : Int) (v2 : Int) (v3 : Int) (v4 : Int) (v5 : Int) (v6 : Int) (M : sd_M) (Rr : Int × sd_M), f_X9_rows_85 k194 n v1 v2 v3 v4 v5 v6 M = some Rr → sd_B X d sd_q_X9_rows 85 [(0, .inr (.inr (some (0)))), (1, .inl (v1)), (2, .inl (v2)), (3, .inl (v3)), (4, .inl (v4)), (5, .inl (v5)), (6, .inl (v6))] [] M (some (.inl Rr.1), sd_rp Rr.2, 0, 0) := by
  intro n
  induction n with
  | zero => intro v1 v2 v3 v4 v5 v6 M Rr h; cases h
  | succ n ih =>
    intro v1 v2 v3 v4 v5 v6 M Rr h
    rw [f_X9_rows_85] at h
    refine sd_b_go 2 (pc2 := 88) (lv2 := [(0, .inr (.inr (some (0)))), (1, .inl (v1)), (2, .inl (v2)), (3, .inl (v3)), (4, .inl (v4)), (5, .inl (v5)), (6, .inl (v6))]) (st2 := [.inl (v3), .inl (v6)]) rfl ?_
    by_cases c1 : v3 ≤ v6
    · rw [if_pos c1] at h
      refine sd_b_ct (c := .ge) (tgt := 194) rfl (decide_eq_true c1) (by decide) ?_
      refine sd_b_wk [(0, .inr (.inr (some (0)))), (1, .inl (v1)), (2, .inl (v2)), (4, .inl (v4)), (5, .inl (v5))] (List.forall_mem_cons.mpr ⟨rfl, (List.forall_mem_cons.mpr ⟨rfl, (List.forall_mem_cons.mpr ⟨rfl, (List.forall_mem_cons.mpr ⟨rfl, (List.forall_mem_cons.mpr ⟨rfl, (fun _ h0 => absurd h0 List.not_mem_nil)⟩)⟩)⟩)⟩)⟩) ?_
      exact hk194 v1 v2 v4 v5 M _ h
    · rw [if_neg c1] at h
      refine sd_b_cf (c := .ge) rfl (decide_eq_false c1) (by decide) ?_
      refine sd_b_go 3 (pc2 := 95) (lv2 := [(0, .inr (.inr (some (0)))), (1, .inl (v1)), (2, .inl (v2)), (3, .inl (v3)), (4, .inl (v4)), (5, .inl (v5)), (6, .inl (v6))]) (st2 := [.inl (v2), .inl (v6), .inr (.inr (some (0)))]) rfl ?_
      obtain ⟨r2, e2, h⟩ := sd_bnd h
      refine sd_b_call [.inr (.inr (some (0))), .inl (v6), .inl (v2)] [] rfl rfl sd_i_X9_layRow rfl rfl (Nat.le_of_ble_eq_true rfl) (sd_rc_v sd_o_0) (m_X9_layRow (by omega) e2) ?_
      refine sd_b_go 2 (pc2 := 100) (lv2 := [(0, .inr (.inr (some (0)))), (1, .inl (v1)), (2, .inl (v2)), (3, .inl (v3)), (4, .inl (v4)), (5, .inl (v5)), (6, .inl (v6))]) (st2 := [.inl (v2), .inr (.inr (some (0)))]) rfl ?_
      obtain ⟨r3, e3, h⟩ := sd_bnd h
      refine sd_b_call [.inr (.inr (some (0))), .inl (v2)] [] rfl rfl sd_i_X9_takeRow rfl rfl (Nat.le_of_ble_eq_true rfl) (sd_rc_v sd_o_0) (m_X9_takeRow (by omega) e3) ?_
      refine sd_b_go 1 (pc2 := 104) (lv2 := [(0, .inr (.inr (some (0)))), (1, .inl (v1)), (2, .inl (v2)), (3, .inl (v3)), (4, .inl (v4)), (5, .inl (v5)), (6, .inl (v6))]) (st2 := [.inr (.inr (some (0)))]) rfl ?_
      refine sd_b_gr (k := 12) sd_o_0 rfl rfl rfl ?_
      obtain ⟨r4, e4, h⟩ := sd_bnd h
      refine sd_b_call [.inr (.inr (some (318)))] [] rfl rfl sd_i_X0_lacking rfl rfl (Nat.le_of_ble_eq_true rfl) (sd_rc_v sd_o_318) (m_X0_lacking (by omega) sd_o_318 e4) ?_
      refine sd_b_go 1 (pc2 := 112) (lv2 := [(0, .inr (.inr (some (0)))), (1, .inl (v1)), (2, .inl (v2)), (3, .inl (v3)), (4, .inl (v4)), (5, .inl (v5)), (6, .inl (v6))]) (st2 := [.inl (v4), .inl (r4.1)]) rfl ?_
      by_cases c5 : r4.1 < v4
      · rw [if_pos c5] at h
        refine sd_b_ct (c := .lt) (tgt := 139) rfl (decide_eq_true c5) (by decide) ?_
        refine sd_b_wk [(0, .inr (.inr (some (0)))), (1, .inl (v1)), (2, .inl (v2)), (3, .inl (v3)), (4, .inl (v4)), (5, .inl (v5)), (6, .inl (v6))] (List.forall_mem_cons.mpr ⟨rfl, (List.forall_mem_cons.mpr ⟨rfl, (List.forall_mem_cons.mpr ⟨rfl, (List.forall_mem_cons.mpr ⟨rfl, (List.forall_mem_cons.mpr ⟨rfl, (List.forall_mem_cons.mpr ⟨rfl, (List.forall_mem_cons.mpr ⟨rfl, (fun _ h0 => absurd h0 List.not_mem_nil)⟩)⟩)⟩)⟩)⟩)⟩)⟩) ?_
        exact t_X9_rows_139 hd (f_X9_rows_85 k194 n) k194 ih hk194 v1 v2 v3 v4 v5 v6 r4.2 _ h
      · rw [if_neg c5] at h
        refine sd_b_cf (c := .lt) rfl (decide_eq_false c5) (by decide) ?_
        refine sd_b_go 1 (pc2 := 116) (lv2 := [(0, .inr (.inr (some (0)))), (1, .inl (v1)), (2, .inl (v2)), (3, .inl (v3)), (4, .inl (v4)), (5, .inl (v5)), (6, .inl (v6))]) (st2 := [.inr (.inr (some (0)))]) rfl ?_
        refine sd_b_gr (k := 12) sd_o_0 rfl rfl rfl ?_
        obtain ⟨r6, e6, h⟩ := sd_bnd h
        refine sd_b_call [.inr (.inr (some (318)))] [] rfl rfl sd_i_X0_lacking rfl rfl (Nat.le_of_ble_eq_true rfl) (sd_rc_v sd_o_318) (m_X0_lacking (by omega) sd_o_318 e6) ?_
        refine sd_b_go 1 (pc2 := 124) (lv2 := [(0, .inr (.inr (some (0)))), (1, .inl (v1)), (2, .inl (v2)), (3, .inl (v3)), (4, .inl (v4)), (5, .inl (v5)), (6, .inl (v6))]) (st2 := [.inl (v4), .inl (r6.1)]) rfl ?_
        by_cases c7 : r6.1 = v4
        · rw [if_pos c7] at h
          refine sd_b_cf (c := .ne) rfl (decide_eq_false (not_not_intro c7)) (by decide) ?_
          refine sd_b_go 1 (pc2 := 128) (lv2 := [(0, .inr (.inr (some (0)))), (1, .inl (v1)), (2, .inl (v2)), (3, .inl (v3)), (4, .inl (v4)), (5, .inl (v5)), (6, .inl (v6))]) (st2 := [.inr (.inr (some (0)))]) rfl ?_
          refine sd_b_gr (k := 12) sd_o_0 rfl rfl rfl ?_
          refine sd_b_gi (k := 3) sd_o_318 rfl rfl rfl ?_
          refine sd_b_go 1 (pc2 := 136) (lv2 := [(0, .inr (.inr (some (0)))), (1, .inl (v1)), (2, .inl (v2)), (3, .inl (v3)), (4, .inl (v4)), (5, .inl (v5)), (6, .inl (v6))]) (st2 := [.inl (v5), .inl (r6.2 318 3)]) rfl ?_
          by_cases c8 : (r6.2 318 3) ≤ v5
          · rw [if_pos c8] at h
            refine sd_b_ct (c := .le) (tgt := 143) rfl (decide_eq_true c8) (by decide) ?_
            refine sd_b_wk [(0, .inr (.inr (some (0)))), (1, .inl (v1)), (2, .inl (v2)), (3, .inl (v3)), (4, .inl (v4)), (5, .inl (v5)), (6, .inl (v6))] (List.forall_mem_cons.mpr ⟨rfl, (List.forall_mem_cons.mpr ⟨rfl, (List.forall_mem_cons.mpr ⟨rfl, (List.forall_mem_cons.mpr ⟨rfl, (List.forall_mem_cons.mpr ⟨rfl, (List.forall_mem_cons.mpr ⟨rfl, (List.forall_mem_cons.mpr ⟨rfl, (fun _ h0 => absurd h0 List.not_mem_nil)⟩)⟩)⟩)⟩)⟩)⟩)⟩) ?_
            exact t_X9_rows_143 hd (f_X9_rows_85 k194 n) k194 ih hk194 v1 v2 v3 v4 v5 v6 r6.2 _ h
          · rw [if_neg c8] at h
            refine sd_b_cf (c := .le) rfl (decide_eq_false c8) (by decide) ?_
            refine sd_b_wk [(0, .inr (.inr (some (0)))), (1, .inl (v1)), (2, .inl (v2)), (3, .inl (v3)), (4, .inl (v4)), (5, .inl (v5)), (6, .inl (v6))] (List.forall_mem_cons.mpr ⟨rfl, (List.forall_mem_cons.mpr ⟨rfl, (List.forall_mem_cons.mpr ⟨rfl, (List.forall_mem_cons.mpr ⟨rfl, (List.forall_mem_cons.mpr ⟨rfl, (List.forall_mem_cons.mpr ⟨rfl, (List.forall_mem_cons.mpr ⟨rfl, (fun _ h0 => absurd h0 List.not_mem_nil)⟩)⟩)⟩)⟩)⟩)⟩)⟩) ?_
            exact t_X9_rows_139 hd (f_X9_rows_85 k194 n) k194 ih hk194 v1 v2 v3 v4 v5 v6 r6.2 _ h
        · rw [if_neg c7] at h
          refine sd_b_ct (c := .ne) (tgt := 143) rfl (decide_eq_true c7) (by decide) ?_
          refine sd_b_wk [(0, .inr (.inr (some (0)))), (1, .inl (v1)), (2, .inl (v2)), (3, .inl (v3)), (4, .inl (v4)), (5, .inl (v5)), (6, .inl (v6))] (List.forall_mem_cons.mpr ⟨rfl, (List.forall_mem_cons.mpr ⟨rfl, (List.forall_mem_cons.mpr ⟨rfl, (List.forall_mem_cons.mpr ⟨rfl, (List.forall_mem_cons.mpr ⟨rfl, (List.forall_mem_cons.mpr ⟨rfl, (List.forall_mem_cons.mpr ⟨rfl, (fun _ h0 => absurd h0 List.not_mem_nil)⟩)⟩)⟩)⟩)⟩)⟩)⟩) ?_
          exact t_X9_rows_143 hd (f_X9_rows_85 k194 n) k194 ih hk194 v1 v2 v3 v4 v5 v6 r6.2 _ h
def f_X9_rows_194 (v1 : Int) (v2 : Int) (v4 : Int) (v5 : Int) (M : sd_M) : Option (Int × sd_M) := if v1 = 0 then (some (v4, M)) else (if v1 = 1 then (some (v5, M)) else (if v2 ≤ (sd_w (v1 - 2)) then (some ((-1), M)) else (if 0 ≤ (sd_w (v1 - 2)) ∧ (sd_w (v1 - 2)) < 4 then (some (M 328 (sd_w (v1 - 2)).toNat, M)) else none)))
set_option maxRecDepth 4000 in
theorem t_X9_rows_194 {X : Nat → List sd_V → List sd_E → sd_A → Prop} {d : Nat} (hd : 6 ≤ d) (v1 : Int) (v2 : Int) (v4 : Int) (v5 : Int) (M : sd_M) (Rr : Int × sd_M) (h : f_X9_rows_194 v1 v2 v4 v5 M = some Rr) : sd_B X d sd_q_X9_rows 194 [(0, .inr (.inr (some (0)))), (1, .inl (v1)), (2, .inl (v2)), (4, .inl (v4)), (5, .inl (v5))] [] M (some (.inl Rr.1), sd_rp Rr.2, 0, 0) := by
  unfold f_X9_rows_194 at h
  refine sd_b_go 1 (pc2 := 195) (lv2 := [(0, .inr (.inr (some (0)))), (1, .inl (v1)), (2, .inl (v2)), (4, .inl (v4)), (5, .inl (v5))]) (st2 := [.inl (v1)]) rfl ?_
  by_cases c1 : v1 = 0
  · rw [if_pos c1] at h
    refine sd_b_zf (c := .ne) rfl (decide_eq_false (not_not_intro c1)) (by decide) ?_
    refine sd_b_go 1 (pc2 := 200) (lv2 := [(0, .inr (.inr (some (0)))), (1, .inl (v1)), (2, .inl (v2)), (4, .inl (v4)), (5, .inl (v5))]) (st2 := [.inl (v4)]) rfl ?_
    cases h
    exact sd_b_rt rfl rfl rfl
  · rw [if_neg c1] at h
    refine sd_b_zt (c := .ne) (tgt := 201) rfl (decide_eq_true c1) (by decide) ?_
    refine sd_b_go 2 (pc2 := 203) (lv2 := [(0, .inr (.inr (some (0)))), (1, .inl (v1)), (2, .inl (v2)), (4, .inl (v4)), (5, .inl (v5))]) (st2 := [.inl (1), .inl (v1)]) rfl ?_
    by_cases c2 : v1 = 1
    · rw [if_pos c2] at h
      refine sd_b_cf (c := .ne) rfl (decide_eq_false (not_not_intro c2)) (by decide) ?_
      refine sd_b_go 1 (pc2 := 208) (lv2 := [(0, .inr (.inr (some (0)))), (1, .inl (v1)), (2, .inl (v2)), (4, .inl (v4)), (5, .inl (v5))]) (st2 := [.inl (v5)]) rfl ?_
      cases h
      exact sd_b_rt rfl rfl rfl
    · rw [if_neg c2] at h
      refine sd_b_ct (c := .ne) (tgt := 209) rfl (decide_eq_true c2) (by decide) ?_
      refine sd_b_go 4 (pc2 := 213) (lv2 := [(0, .inr (.inr (some (0)))), (1, .inl (v1)), (2, .inl (v2)), (4, .inl (v4)), (5, .inl (v5))]) (st2 := [.inl (v2), .inl (sd_w (v1 - 2))]) rfl ?_
      by_cases c3 : v2 ≤ (sd_w (v1 - 2))
      · rw [if_pos c3] at h
        refine sd_b_ct (c := .ge) (tgt := 227) rfl (decide_eq_true c3) (by decide) ?_
        refine sd_b_go 1 (pc2 := 228) (lv2 := [(0, .inr (.inr (some (0)))), (1, .inl (v1)), (2, .inl (v2)), (4, .inl (v4)), (5, .inl (v5))]) (st2 := [.inl ((-1))]) rfl ?_
        cases h
        exact sd_b_rt rfl rfl rfl
      · rw [if_neg c3] at h
        refine sd_b_cf (c := .ge) rfl (decide_eq_false c3) (by decide) ?_
        refine sd_b_go 1 (pc2 := 217) (lv2 := [(0, .inr (.inr (some (0)))), (1, .inl (v1)), (2, .inl (v2)), (4, .inl (v4)), (5, .inl (v5))]) (st2 := [.inr (.inr (some (0)))]) rfl ?_
        refine sd_b_gr (k := 15) sd_o_0 rfl rfl rfl ?_
        refine sd_b_go 3 (pc2 := 223) (lv2 := [(0, .inr (.inr (some (0)))), (1, .inl (v1)), (2, .inl (v2)), (4, .inl (v4)), (5, .inl (v5))]) (st2 := [.inl (sd_w (v1 - 2)), .inr (.inr (some (328)))]) rfl ?_
        obtain ⟨g4, h⟩ := sd_if h
        refine sd_b_ai (sd_oa sd_o_0 (by decide) (off := 328) (List.mem_of_getElem? (i := 3) rfl)) g4 rfl ?_
        refine sd_b_go 1 (pc2 := 228) (lv2 := [(0, .inr (.inr (some (0)))), (1, .inl (v1)), (2, .inl (v2)), (4, .inl (v4)), (5, .inl (v5))]) (st2 := [.inl (M 328 (sd_w (v1 - 2)).toNat)]) rfl ?_
        cases h
        exact sd_b_rt rfl rfl rfl
def f_X9_rows_76 (v1 : Int) (v2 : Int) (v3 : Int) (M : sd_M) : Option (Int × sd_M) := f_X9_rows_85 (f_X9_rows_194) 4000 v1 v2 v3 0 0 0 M
set_option maxRecDepth 4000 in
theorem t_X9_rows_76 {X : Nat → List sd_V → List sd_E → sd_A → Prop} {d : Nat} (hd : 6 ≤ d) (v1 : Int) (v2 : Int) (v3 : Int) (M : sd_M) (Rr : Int × sd_M) (h : f_X9_rows_76 v1 v2 v3 M = some Rr) : sd_B X d sd_q_X9_rows 76 [(0, .inr (.inr (some (0)))), (1, .inl (v1)), (2, .inl (v2)), (3, .inl (v3))] [] M (some (.inl Rr.1), sd_rp Rr.2, 0, 0) := by
  unfold f_X9_rows_76 at h
  refine sd_b_go 6 (pc2 := 85) (lv2 := [(6, .inl (0)), (5, .inl (0)), (4, .inl (0)), (0, .inr (.inr (some (0)))), (1, .inl (v1)), (2, .inl (v2)), (3, .inl (v3))]) (st2 := []) rfl ?_
  refine sd_b_wk [(0, .inr (.inr (some (0)))), (1, .inl (v1)), (2, .inl (v2)), (3, .inl (v3)), (4, .inl (0)), (5, .inl (0)), (6, .inl (0))] (List.forall_mem_cons.mpr ⟨rfl, (List.forall_mem_cons.mpr ⟨rfl, (List.forall_mem_cons.mpr ⟨rfl, (List.forall_mem_cons.mpr ⟨rfl, (List.forall_mem_cons.mpr ⟨rfl, (List.forall_mem_cons.mpr ⟨rfl, (List.forall_mem_cons.mpr ⟨rfl, (fun _ h0 => absurd h0 List.not_mem_nil)⟩)⟩)⟩)⟩)⟩)⟩)⟩) ?_
  exact t_X9_rows_85 hd (f_X9_rows_194) (t_X9_rows_194 hd) 4000 v1 v2 v3 0 0 0 M _ h
def f_X9_rows (p1 : Int) (M : sd_M) : Option (Int × sd_M) := if (M 59 0) = 0 then (some ((-2), M)) else (if p1 < 0 then (some ((-2), M)) else (if p1 ≤ 5 then ((f_X0_bitsWhere 66 0 (M 59 2) M).bind fun r4 => (f_J6_bitCount_0f7a4 r4.1 r4.2).bind fun r5 => f_X9_rows_59 (f_X9_rows_76) 4000 p1 (if r5.1 < 4 then r5.1 else 4) 1 2 r5.2) else (some ((-2), M))))
set_option maxRecDepth 4000 in
theorem t_X9_rows {X : Nat → List sd_V → List sd_E → sd_A → Prop} {d : Nat} (hd : 6 ≤ d) (p1 : Int) (M : sd_M) (Rr : Int × sd_M) (h : f_X9_rows p1 M = some Rr) : sd_B X d sd_q_X9_rows 0 [(0, .inr (.inr (some (0)))), (1, .inl (p1))] [] M (some (.inl Rr.1), sd_rp Rr.2, 0, 0) := by
  unfold f_X9_rows at h
  refine sd_b_go 1 (pc2 := 1) (lv2 := [(0, .inr (.inr (some (0)))), (1, .inl (p1))]) (st2 := [.inr (.inr (some (0)))]) rfl ?_
  refine sd_b_gr (k := 5) sd_o_0 rfl rfl rfl ?_
  refine sd_b_gr (k := 0) sd_o_58 rfl rfl rfl ?_
  refine sd_b_gi (k := 0) sd_o_59 rfl rfl rfl ?_
  by_cases c1 : (M 59 0) = 0
  · rw [if_pos c1] at h
    refine sd_b_zt (c := .eq) (tgt := 22) rfl (decide_eq_true c1) (by decide) ?_
    refine sd_b_go 1 (pc2 := 24) (lv2 := [(0, .inr (.inr (some (0)))), (1, .inl (p1))]) (st2 := [.inl ((-2))]) rfl ?_
    cases h
    exact sd_b_rt rfl rfl rfl
  · rw [if_neg c1] at h
    refine sd_b_zf (c := .eq) rfl (decide_eq_false c1) (by decide) ?_
    refine sd_b_go 1 (pc2 := 14) (lv2 := [(0, .inr (.inr (some (0)))), (1, .inl (p1))]) (st2 := [.inl (p1)]) rfl ?_
    by_cases c2 : p1 < 0
    · rw [if_pos c2] at h
      refine sd_b_zt (c := .lt) (tgt := 22) rfl (decide_eq_true c2) (by decide) ?_
      refine sd_b_go 1 (pc2 := 24) (lv2 := [(0, .inr (.inr (some (0)))), (1, .inl (p1))]) (st2 := [.inl ((-2))]) rfl ?_
      cases h
      exact sd_b_rt rfl rfl rfl
    · rw [if_neg c2] at h
      refine sd_b_zf (c := .lt) rfl (decide_eq_false c2) (by decide) ?_
      refine sd_b_go 2 (pc2 := 19) (lv2 := [(0, .inr (.inr (some (0)))), (1, .inl (p1))]) (st2 := [.inl (5), .inl (p1)]) rfl ?_
      by_cases c3 : p1 ≤ 5
      · rw [if_pos c3] at h
        refine sd_b_ct (c := .le) (tgt := 25) rfl (decide_eq_true c3) (by decide) ?_
        refine sd_b_go 2 (pc2 := 27) (lv2 := [(0, .inr (.inr (some (0)))), (1, .inl (p1))]) (st2 := [.inr (.inr (some (0))), .inl (4)]) rfl ?_
        refine sd_b_gr (k := 5) sd_o_0 rfl rfl rfl ?_
        refine sd_b_gr (k := 1) sd_o_58 rfl rfl rfl ?_
        refine sd_b_go 2 (pc2 := 35) (lv2 := [(0, .inr (.inr (some (0)))), (1, .inl (p1))]) (st2 := [.inr (.inr (some (0))), .inl (0), .inr (.inr (some (66))), .inl (4)]) rfl ?_
        refine sd_b_gr (k := 5) sd_o_0 rfl rfl rfl ?_
        refine sd_b_gr (k := 0) sd_o_58 rfl rfl rfl ?_
        refine sd_b_gi (k := 2) sd_o_59 rfl rfl rfl ?_
        obtain ⟨r4, e4, h⟩ := sd_bnd h
        refine sd_b_call [.inr (.inr (some (66))), .inl (0), .inl (M 59 2)] [.inl (4)] rfl rfl sd_i_X0_bitsWhere rfl rfl (Nat.le_of_ble_eq_true rfl) (sd_rc_v sd_o_66) (m_X0_bitsWhere (by omega) sd_o_66 e4) ?_
        obtain ⟨r5, e5, h⟩ := sd_bnd h
        refine sd_b_call [.inl (r4.1)] [.inl (4)] rfl rfl sd_i_J6_bitCount_0f7a4 rfl rfl (Nat.le_of_ble_eq_true rfl) rfl (m_J6_bitCount_0f7a4 (by omega) e5) ?_
        refine sd_b_go 6 (pc2 := 59) (lv2 := [(4, .inl (2)), (3, .inl (1)), (2, .inl (if r5.1 < 4 then r5.1 else 4)), (0, .inr (.inr (some (0)))), (1, .inl (p1))]) (st2 := []) rfl ?_
        refine sd_b_wk [(0, .inr (.inr (some (0)))), (1, .inl (p1)), (2, .inl (if r5.1 < 4 then r5.1 else 4)), (3, .inl (1)), (4, .inl (2))] (List.forall_mem_cons.mpr ⟨rfl, (List.forall_mem_cons.mpr ⟨rfl, (List.forall_mem_cons.mpr ⟨rfl, (List.forall_mem_cons.mpr ⟨rfl, (List.forall_mem_cons.mpr ⟨rfl, (fun _ h0 => absurd h0 List.not_mem_nil)⟩)⟩)⟩)⟩)⟩) ?_
        exact t_X9_rows_59 hd (f_X9_rows_76) (t_X9_rows_76 hd) 4000 p1 (if r5.1 < 4 then r5.1 else 4) 1 2 r5.2 _ h
      · rw [if_neg c3] at h
        refine sd_b_cf (c := .le) rfl (decide_eq_false c3) (by decide) ?_
        refine sd_b_go 1 (pc2 := 24) (lv2 := [(0, .inr (.inr (some (0)))), (1, .inl (p1))]) (st2 := [.inl ((-2))]) rfl ?_
        cases h
        exact sd_b_rt rfl rfl rfl
theorem m_X9_rows {X : Nat → List sd_V → List sd_E → sd_A → Prop} {d : Nat} (hd : 7 ≤ d) {p1 : Int} {M : sd_M} {Rr : Int × sd_M} (h : f_X9_rows p1 M = some Rr) : sd_Cal X d 99 [.inr (.inr (some (0))), .inl (p1)] (sd_rp M) (some (.inl Rr.1), sd_rp Rr.2, 0, 0) := by
  obtain ⟨d, rfl⟩ : ∃ d2, d = d2 + 1 := ⟨d - 1, by omega⟩
  exact sd_cal_of sd_i_X9_rows (Nat.le_of_ble_eq_true rfl) (t_X9_rows (by omega) p1 M Rr h)
-- X9_ahead
def sd_q_X9_ahead : sd_MI := (yX9_ahead, cX9_ahead, 4, (some .int), 9, 2, sd_t_X9_ahead)
set_option maxRecDepth 4000 in
theorem sd_i_X9_ahead : sd_mL[103]? = some sd_q_X9_ahead := rfl
def f_X9_ahead_50 (k84 : Int → sd_M → Option (Int × sd_M)) : Nat → Int → Int → Int → sd_M → Option (Int × sd_M)
  | 0, _, _, _, _ => none
  | n + 1, v1, v2, v3, M => if v1 ≤ v3 then (k84 v2 M) else ((f_X9_ruleInForce M).bind fun r2 => (f_X1_pass 318 r2.1 r2.2).bind fun r3 => f_X9_ahead_50 k84 n v1 v2 (sd_w (v3 + 1)) r3.2)
set_option maxRecDepth 4000 in
theorem t_X9_ahead_50 {X : Nat → List sd_V → List sd_E → sd_A → Prop} {d : Nat} (hd : 6 ≤ d) (k84 : Int → sd_M → Option (Int × sd_M)) (hk84 : ∀ (v2 : Int) (M : sd_M) (Rr : Int × sd_M), k84 v2 M = some Rr → sd_B X d sd_q_X9_ahead 84 [(0, .inr (.inr (some (0)))), (2, .inl (v2))] [] M (some (.inl Rr.1), sd_rp Rr.2, 0, 0)) : ∀ (n : Nat) (v1 : Int) (v2 : Int) (v3 : Int) (M : sd_M) (Rr : Int × sd_M), f_X9_ahead_50 k84 n v1 v2 v3 M = some Rr → sd_B X d sd_q_X9_ahead 50 [(0, .inr (.inr (some (0)))), (1, .inl (v1)), (2, .inl (v2)), (3, .inl (v3))] [] M (some (.inl Rr.1), sd_rp Rr.2, 0, 0) := by
  intro n
  induction n with
  | zero => intro v1 v2 v3 M Rr h; cases h
  | succ n ih =>
    intro v1 v2 v3 M Rr h
    rw [f_X9_ahead_50] at h
    refine sd_b_go 2 (pc2 := 52) (lv2 := [(0, .inr (.inr (some (0)))), (1, .inl (v1)), (2, .inl (v2)), (3, .inl (v3))]) (st2 := [.inl (v1), .inl (v3)]) rfl ?_
    by_cases c1 : v1 ≤ v3
    · rw [if_pos c1] at h
      refine sd_b_ct (c := .ge) (tgt := 84) rfl (decide_eq_true c1) (by decide) ?_
      refine sd_b_wk [(0, .inr (.inr (some (0)))), (2, .inl (v2))] (List.forall_mem_cons.mpr ⟨rfl, (List.forall_mem_cons.mpr ⟨rfl, (fun _ h0 => absurd h0 List.not_mem_nil)⟩)⟩) ?_
      exact hk84 v2 M _ h
    · rw [if_neg c1] at h
      refine sd_b_cf (c := .ge) rfl (decide_eq_false c1) (by decide) ?_
      refine sd_b_go 1 (pc2 := 56) (lv2 := [(0, .inr (.inr (some (0)))), (1, .inl (v1)), (2, .inl (v2)), (3, .inl (v3))]) (st2 := [.inr (.inr (some (0)))]) rfl ?_
      refine sd_b_gr (k := 11) sd_o_0 rfl rfl rfl ?_
      refine sd_b_go 1 (pc2 := 60) (lv2 := [(0, .inr (.inr (some (0)))), (1, .inl (v1)), (2, .inl (v2)), (3, .inl (v3))]) (st2 := [.inr (.inr (some (0))), .inr (.inr (some (316)))]) rfl ?_
      refine sd_b_gr (k := 12) sd_o_0 rfl rfl rfl ?_
      refine sd_b_go 1 (pc2 := 64) (lv2 := [(0, .inr (.inr (some (0)))), (1, .inl (v1)), (2, .inl (v2)), (3, .inl (v3))]) (st2 := [.inr (.inr (some (0))), .inr (.inr (some (318))), .inr (.inr (some (316)))]) rfl ?_
      refine sd_b_gr (k := 5) sd_o_0 rfl rfl rfl ?_
      refine sd_b_gr (k := 0) sd_o_58 rfl rfl rfl ?_
      refine sd_b_go 1 (pc2 := 71) (lv2 := [(0, .inr (.inr (some (0)))), (1, .inl (v1)), (2, .inl (v2)), (3, .inl (v3))]) (st2 := [.inr (.inr (some (0))), .inr (.inr (some (59))), .inr (.inr (some (318))), .inr (.inr (some (316)))]) rfl ?_
      obtain ⟨r2, e2, h⟩ := sd_bnd h
      refine sd_b_call [.inr (.inr (some (0)))] [.inr (.inr (some (59))), .inr (.inr (some (318))), .inr (.inr (some (316)))] rfl rfl sd_i_X9_ruleInForce rfl rfl (Nat.le_of_ble_eq_true rfl) (sd_rc_v sd_o_0) (m_X9_ruleInForce (by omega) e2) ?_
      obtain ⟨r3, e3, h⟩ := sd_bnd h
      refine sd_b_call [.inr (.inr (some (316))), .inr (.inr (some (318))), .inr (.inr (some (59))), .inr (.inr (r2.1))] [] rfl rfl sd_i_X1_pass rfl rfl (Nat.le_of_ble_eq_true rfl) (sd_rc_v sd_o_316) (m_X1_pass (by omega) sd_o_318 (n_X9_ruleInForce e2) e3) ?_
      refine sd_b_go 3 (pc2 := 50) (lv2 := [(3, .inl (sd_w (v3 + 1))), (0, .inr (.inr (some (0)))), (1, .inl (v1)), (2, .inl (v2))]) (st2 := []) rfl ?_
      refine sd_b_wk [(0, .inr (.inr (some (0)))), (1, .inl (v1)), (2, .inl (v2)), (3, .inl (sd_w (v3 + 1)))] (List.forall_mem_cons.mpr ⟨rfl, (List.forall_mem_cons.mpr ⟨rfl, (List.forall_mem_cons.mpr ⟨rfl, (List.forall_mem_cons.mpr ⟨rfl, (fun _ h0 => absurd h0 List.not_mem_nil)⟩)⟩)⟩)⟩) ?_
      exact ih v1 v2 (sd_w (v3 + 1)) r3.2 _ h
def f_X9_ahead_84 (v2 : Int) (M : sd_M) : Option (Int × sd_M) := if v2 = 0 then (some (M 318 2, M)) else (if v2 = 1 then (some (M 318 3, M)) else (if v2 = 2 then ((f_X0_lacking 318 M).bind fun r4 => some (r4.1, r4.2)) else (some (M 318 4, M))))
set_option maxRecDepth 4000 in
theorem t_X9_ahead_84 {X : Nat → List sd_V → List sd_E → sd_A → Prop} {d : Nat} (hd : 6 ≤ d) (v2 : Int) (M : sd_M) (Rr : Int × sd_M) (h : f_X9_ahead_84 v2 M = some Rr) : sd_B X d sd_q_X9_ahead 84 [(0, .inr (.inr (some (0)))), (2, .inl (v2))] [] M (some (.inl Rr.1), sd_rp Rr.2, 0, 0) := by
  unfold f_X9_ahead_84 at h
  refine sd_b_go 1 (pc2 := 85) (lv2 := [(0, .inr (.inr (some (0)))), (2, .inl (v2))]) (st2 := [.inl (v2)]) rfl ?_
  by_cases c1 : v2 = 0
  · rw [if_pos c1] at h
    refine sd_b_eq c1 ?_
    refine sd_b_go 1 (pc2 := 112) (lv2 := [(0, .inr (.inr (some (0)))), (2, .inl (v2))]) (st2 := []) rfl ?_
    refine sd_b_go 1 (pc2 := 113) (lv2 := [(0, .inr (.inr (some (0)))), (2, .inl (v2))]) (st2 := [.inr (.inr (some (0)))]) rfl ?_
    refine sd_b_gr (k := 12) sd_o_0 rfl rfl rfl ?_
    refine sd_b_gi (k := 2) sd_o_318 rfl rfl rfl ?_
    cases h
    exact sd_b_rt rfl rfl rfl
  · rw [if_neg c1] at h
    by_cases c2 : v2 = 1
    · rw [if_pos c2] at h
      refine sd_b_eq c2 ?_
      refine sd_b_go 1 (pc2 := 120) (lv2 := [(0, .inr (.inr (some (0)))), (2, .inl (v2))]) (st2 := []) rfl ?_
      refine sd_b_go 1 (pc2 := 121) (lv2 := [(0, .inr (.inr (some (0)))), (2, .inl (v2))]) (st2 := [.inr (.inr (some (0)))]) rfl ?_
      refine sd_b_gr (k := 12) sd_o_0 rfl rfl rfl ?_
      refine sd_b_gi (k := 3) sd_o_318 rfl rfl rfl ?_
      cases h
      exact sd_b_rt rfl rfl rfl
    · rw [if_neg c2] at h
      by_cases c3 : v2 = 2
      · rw [if_pos c3] at h
        refine sd_b_eq c3 ?_
        refine sd_b_go 1 (pc2 := 128) (lv2 := [(0, .inr (.inr (some (0)))), (2, .inl (v2))]) (st2 := []) rfl ?_
        refine sd_b_go 1 (pc2 := 129) (lv2 := [(0, .inr (.inr (some (0)))), (2, .inl (v2))]) (st2 := [.inr (.inr (some (0)))]) rfl ?_
        refine sd_b_gr (k := 12) sd_o_0 rfl rfl rfl ?_
        obtain ⟨r4, e4, h⟩ := sd_bnd h
        refine sd_b_call [.inr (.inr (some (318)))] [] rfl rfl sd_i_X0_lacking rfl rfl (Nat.le_of_ble_eq_true rfl) (sd_rc_v sd_o_318) (m_X0_lacking (by omega) sd_o_318 e4) ?_
        cases h
        exact sd_b_rt rfl rfl rfl
      · rw [if_neg c3] at h
        refine sd_b_td (tgt := 136) rfl (by omega) (by decide) ?_
        refine sd_b_go 1 (pc2 := 137) (lv2 := [(0, .inr (.inr (some (0)))), (2, .inl (v2))]) (st2 := [.inr (.inr (some (0)))]) rfl ?_
        refine sd_b_gr (k := 12) sd_o_0 rfl rfl rfl ?_
        refine sd_b_gi (k := 4) sd_o_318 rfl rfl rfl ?_
        cases h
        exact sd_b_rt rfl rfl rfl
def f_X9_ahead (p1 : Int) (p2 : Int) (M : sd_M) : Option (Int × sd_M) := if (M 59 0) = 0 then (some ((-1), M)) else (if p1 < 0 then (some ((-1), M)) else (if 60 < p1 then (some ((-1), M)) else (if p2 < 0 then (some ((-1), M)) else (if p2 ≤ 3 then ((f_X0_copyFrom 318 66 M).bind fun r6 => f_X9_ahead_50 (f_X9_ahead_84) 4000 p1 p2 0 r6.2) else (some ((-1), M))))))
set_option maxRecDepth 4000 in
theorem t_X9_ahead {X : Nat → List sd_V → List sd_E → sd_A → Prop} {d : Nat} (hd : 6 ≤ d) (p1 : Int) (p2 : Int) (M : sd_M) (Rr : Int × sd_M) (h : f_X9_ahead p1 p2 M = some Rr) : sd_B X d sd_q_X9_ahead 0 [(0, .inr (.inr (some (0)))), (1, .inl (p1)), (2, .inl (p2))] [] M (some (.inl Rr.1), sd_rp Rr.2, 0, 0) := by
  unfold f_X9_ahead at h
  refine sd_b_go 1 (pc2 := 1) (lv2 := [(0, .inr (.inr (some (0)))), (1, .inl (p1)), (2, .inl (p2))]) (st2 := [.inr (.inr (some (0)))]) rfl ?_
  refine sd_b_gr (k := 5) sd_o_0 rfl rfl rfl ?_
  refine sd_b_gr (k := 0) sd_o_58 rfl rfl rfl ?_
  refine sd_b_gi (k := 0) sd_o_59 rfl rfl rfl ?_
  by_cases c1 : (M 59 0) = 0
  · rw [if_pos c1] at h
    refine sd_b_zt (c := .eq) (tgt := 32) rfl (decide_eq_true c1) (by decide) ?_
    refine sd_b_go 1 (pc2 := 33) (lv2 := [(0, .inr (.inr (some (0)))), (1, .inl (p1)), (2, .inl (p2))]) (st2 := [.inl ((-1))]) rfl ?_
    cases h
    exact sd_b_rt rfl rfl rfl
  · rw [if_neg c1] at h
    refine sd_b_zf (c := .eq) rfl (decide_eq_false c1) (by decide) ?_
    refine sd_b_go 1 (pc2 := 14) (lv2 := [(0, .inr (.inr (some (0)))), (1, .inl (p1)), (2, .inl (p2))]) (st2 := [.inl (p1)]) rfl ?_
    by_cases c2 : p1 < 0
    · rw [if_pos c2] at h
      refine sd_b_zt (c := .lt) (tgt := 32) rfl (decide_eq_true c2) (by decide) ?_
      refine sd_b_go 1 (pc2 := 33) (lv2 := [(0, .inr (.inr (some (0)))), (1, .inl (p1)), (2, .inl (p2))]) (st2 := [.inl ((-1))]) rfl ?_
      cases h
      exact sd_b_rt rfl rfl rfl
    · rw [if_neg c2] at h
      refine sd_b_zf (c := .lt) rfl (decide_eq_false c2) (by decide) ?_
      refine sd_b_go 2 (pc2 := 20) (lv2 := [(0, .inr (.inr (some (0)))), (1, .inl (p1)), (2, .inl (p2))]) (st2 := [.inl (60), .inl (p1)]) rfl ?_
      by_cases c3 : 60 < p1
      · rw [if_pos c3] at h
        refine sd_b_ct (c := .gt) (tgt := 32) rfl (decide_eq_true c3) (by decide) ?_
        refine sd_b_go 1 (pc2 := 33) (lv2 := [(0, .inr (.inr (some (0)))), (1, .inl (p1)), (2, .inl (p2))]) (st2 := [.inl ((-1))]) rfl ?_
        cases h
        exact sd_b_rt rfl rfl rfl
      · rw [if_neg c3] at h
        refine sd_b_cf (c := .gt) rfl (decide_eq_false c3) (by decide) ?_
        refine sd_b_go 1 (pc2 := 24) (lv2 := [(0, .inr (.inr (some (0)))), (1, .inl (p1)), (2, .inl (p2))]) (st2 := [.inl (p2)]) rfl ?_
        by_cases c4 : p2 < 0
        · rw [if_pos c4] at h
          refine sd_b_zt (c := .lt) (tgt := 32) rfl (decide_eq_true c4) (by decide) ?_
          refine sd_b_go 1 (pc2 := 33) (lv2 := [(0, .inr (.inr (some (0)))), (1, .inl (p1)), (2, .inl (p2))]) (st2 := [.inl ((-1))]) rfl ?_
          cases h
          exact sd_b_rt rfl rfl rfl
        · rw [if_neg c4] at h
          refine sd_b_zf (c := .lt) rfl (decide_eq_false c4) (by decide) ?_
          refine sd_b_go 2 (pc2 := 29) (lv2 := [(0, .inr (.inr (some (0)))), (1, .inl (p1)), (2, .inl (p2))]) (st2 := [.inl (3), .inl (p2)]) rfl ?_
          by_cases c5 : p2 ≤ 3
          · rw [if_pos c5] at h
            refine sd_b_ct (c := .le) (tgt := 34) rfl (decide_eq_true c5) (by decide) ?_
            refine sd_b_go 1 (pc2 := 35) (lv2 := [(0, .inr (.inr (some (0)))), (1, .inl (p1)), (2, .inl (p2))]) (st2 := [.inr (.inr (some (0)))]) rfl ?_
            refine sd_b_gr (k := 12) sd_o_0 rfl rfl rfl ?_
            refine sd_b_go 1 (pc2 := 39) (lv2 := [(0, .inr (.inr (some (0)))), (1, .inl (p1)), (2, .inl (p2))]) (st2 := [.inr (.inr (some (0))), .inr (.inr (some (318)))]) rfl ?_
            refine sd_b_gr (k := 5) sd_o_0 rfl rfl rfl ?_
            refine sd_b_gr (k := 1) sd_o_58 rfl rfl rfl ?_
            obtain ⟨r6, e6, h⟩ := sd_bnd h
            refine sd_b_call [.inr (.inr (some (318))), .inr (.inr (some (66)))] [] rfl rfl sd_i_X0_copyFrom rfl rfl (Nat.le_of_ble_eq_true rfl) (sd_rc_v sd_o_318) (m_X0_copyFrom (by omega) sd_o_318 sd_o_66 e6) ?_
            refine sd_b_go 2 (pc2 := 50) (lv2 := [(3, .inl (0)), (0, .inr (.inr (some (0)))), (1, .inl (p1)), (2, .inl (p2))]) (st2 := []) rfl ?_
            refine sd_b_wk [(0, .inr (.inr (some (0)))), (1, .inl (p1)), (2, .inl (p2)), (3, .inl (0))] (List.forall_mem_cons.mpr ⟨rfl, (List.forall_mem_cons.mpr ⟨rfl, (List.forall_mem_cons.mpr ⟨rfl, (List.forall_mem_cons.mpr ⟨rfl, (fun _ h0 => absurd h0 List.not_mem_nil)⟩)⟩)⟩)⟩) ?_
            exact t_X9_ahead_50 hd (f_X9_ahead_84) (t_X9_ahead_84 hd) 4000 p1 p2 0 r6.2 _ h
          · rw [if_neg c5] at h
            refine sd_b_cf (c := .le) rfl (decide_eq_false c5) (by decide) ?_
            refine sd_b_go 1 (pc2 := 33) (lv2 := [(0, .inr (.inr (some (0)))), (1, .inl (p1)), (2, .inl (p2))]) (st2 := [.inl ((-1))]) rfl ?_
            cases h
            exact sd_b_rt rfl rfl rfl
theorem m_X9_ahead {X : Nat → List sd_V → List sd_E → sd_A → Prop} {d : Nat} (hd : 7 ≤ d) {p1 : Int} {p2 : Int} {M : sd_M} {Rr : Int × sd_M} (h : f_X9_ahead p1 p2 M = some Rr) : sd_Cal X d 103 [.inr (.inr (some (0))), .inl (p1), .inl (p2)] (sd_rp M) (some (.inl Rr.1), sd_rp Rr.2, 0, 0) := by
  obtain ⟨d, rfl⟩ : ∃ d2, d = d2 + 1 := ⟨d - 1, by omega⟩
  exact sd_cal_of sd_i_X9_ahead (Nat.le_of_ble_eq_true rfl) (t_X9_ahead (by omega) p1 p2 M Rr h)
-- X9_full
def sd_q_X9_full : sd_MI := (yX9_full, cX9_full, 3, (some .int), 9, 0, sd_t_X9_full)
set_option maxRecDepth 4000 in
theorem sd_i_X9_full : sd_mL[104]? = some sd_q_X9_full := rfl
def f_X9_full_31 : Nat → Int → sd_M → Option (Int × sd_M)
  | 0, _, _ => none
  | n + 1, v1, M => if 60 ≤ v1 then (some ((-2), M)) else ((f_X9_ruleInForce M).bind fun r2 => (f_X1_pass 318 r2.1 r2.2).bind fun r3 => (f_X0_lacking 318 r3.2).bind fun r4 => if r4.1 = 0 then (some (M 318 1, r4.2)) else (f_X9_full_31 n (sd_w (v1 + 1)) r4.2))
set_option maxRecDepth 4000 in
theorem t_X9_full_31 {X : Nat → List sd_V → List sd_E → sd_A → Prop} {d : Nat} (hd : 6 ≤ d) : ∀ (n : Nat) (v1 : Int) (M : sd_M) (Rr : Int × sd_M), f_X9_full_31 n v1 M = some Rr → sd_B X d sd_q_X9_full 31 [(0, .inr (.inr (some (0)))), (1, .inl (v1))] [] M (some (.inl Rr.1), sd_rp Rr.2, 0, 0) := by
  intro n
  induction n with
  | zero => intro v1 M Rr h; cases h
  | succ n ih =>
    intro v1 M Rr h
    rw [f_X9_full_31] at h
    refine sd_b_go 2 (pc2 := 34) (lv2 := [(0, .inr (.inr (some (0)))), (1, .inl (v1))]) (st2 := [.inl (60), .inl (v1)]) rfl ?_
    by_cases c1 : 60 ≤ v1
    · rw [if_pos c1] at h
      refine sd_b_ct (c := .ge) (tgt := 86) rfl (decide_eq_true c1) (by decide) ?_
      refine sd_b_go 1 (pc2 := 88) (lv2 := [(0, .inr (.inr (some (0)))), (1, .inl (v1))]) (st2 := [.inl ((-2))]) rfl ?_
      cases h
      exact sd_b_rt rfl rfl rfl
    · rw [if_neg c1] at h
      refine sd_b_cf (c := .ge) rfl (decide_eq_false c1) (by decide) ?_
      refine sd_b_go 1 (pc2 := 38) (lv2 := [(0, .inr (.inr (some (0)))), (1, .inl (v1))]) (st2 := [.inr (.inr (some (0)))]) rfl ?_
      refine sd_b_gr (k := 12) sd_o_0 rfl rfl rfl ?_
      refine sd_b_gi (k := 1) sd_o_318 rfl rfl rfl ?_
      refine sd_b_go 2 (pc2 := 46) (lv2 := [(2, .inl (M 318 1)), (0, .inr (.inr (some (0)))), (1, .inl (v1))]) (st2 := [.inr (.inr (some (0)))]) rfl ?_
      refine sd_b_gr (k := 11) sd_o_0 rfl rfl rfl ?_
      refine sd_b_go 1 (pc2 := 50) (lv2 := [(2, .inl (M 318 1)), (0, .inr (.inr (some (0)))), (1, .inl (v1))]) (st2 := [.inr (.inr (some (0))), .inr (.inr (some (316)))]) rfl ?_
      refine sd_b_gr (k := 12) sd_o_0 rfl rfl rfl ?_
      refine sd_b_go 1 (pc2 := 54) (lv2 := [(2, .inl (M 318 1)), (0, .inr (.inr (some (0)))), (1, .inl (v1))]) (st2 := [.inr (.inr (some (0))), .inr (.inr (some (318))), .inr (.inr (some (316)))]) rfl ?_
      refine sd_b_gr (k := 5) sd_o_0 rfl rfl rfl ?_
      refine sd_b_gr (k := 0) sd_o_58 rfl rfl rfl ?_
      refine sd_b_go 1 (pc2 := 61) (lv2 := [(2, .inl (M 318 1)), (0, .inr (.inr (some (0)))), (1, .inl (v1))]) (st2 := [.inr (.inr (some (0))), .inr (.inr (some (59))), .inr (.inr (some (318))), .inr (.inr (some (316)))]) rfl ?_
      obtain ⟨r2, e2, h⟩ := sd_bnd h
      refine sd_b_call [.inr (.inr (some (0)))] [.inr (.inr (some (59))), .inr (.inr (some (318))), .inr (.inr (some (316)))] rfl rfl sd_i_X9_ruleInForce rfl rfl (Nat.le_of_ble_eq_true rfl) (sd_rc_v sd_o_0) (m_X9_ruleInForce (by omega) e2) ?_
      obtain ⟨r3, e3, h⟩ := sd_bnd h
      refine sd_b_call [.inr (.inr (some (316))), .inr (.inr (some (318))), .inr (.inr (some (59))), .inr (.inr (r2.1))] [] rfl rfl sd_i_X1_pass rfl rfl (Nat.le_of_ble_eq_true rfl) (sd_rc_v sd_o_316) (m_X1_pass (by omega) sd_o_318 (n_X9_ruleInForce e2) e3) ?_
      refine sd_b_go 2 (pc2 := 69) (lv2 := [(2, .inl (M 318 1)), (0, .inr (.inr (some (0)))), (1, .inl (v1))]) (st2 := [.inr (.inr (some (0)))]) rfl ?_
      refine sd_b_gr (k := 12) sd_o_0 rfl rfl rfl ?_
      obtain ⟨r4, e4, h⟩ := sd_bnd h
      refine sd_b_call [.inr (.inr (some (318)))] [] rfl rfl sd_i_X0_lacking rfl rfl (Nat.le_of_ble_eq_true rfl) (sd_rc_v sd_o_318) (m_X0_lacking (by omega) sd_o_318 e4) ?_
      by_cases c5 : r4.1 = 0
      · rw [if_pos c5] at h
        refine sd_b_zf (c := .ne) rfl (decide_eq_false (not_not_intro c5)) (by decide) ?_
        refine sd_b_go 1 (pc2 := 79) (lv2 := [(2, .inl (M 318 1)), (0, .inr (.inr (some (0)))), (1, .inl (v1))]) (st2 := [.inl (M 318 1)]) rfl ?_
        cases h
        exact sd_b_rt rfl rfl rfl
      · rw [if_neg c5] at h
        refine sd_b_zt (c := .ne) (tgt := 80) rfl (decide_eq_true c5) (by decide) ?_
        refine sd_b_go 2 (pc2 := 31) (lv2 := [(1, .inl (sd_w (v1 + 1))), (2, .inl (M 318 1)), (0, .inr (.inr (some (0))))]) (st2 := []) rfl ?_
        refine sd_b_wk [(0, .inr (.inr (some (0)))), (1, .inl (sd_w (v1 + 1)))] (List.forall_mem_cons.mpr ⟨rfl, (List.forall_mem_cons.mpr ⟨rfl, (fun _ h0 => absurd h0 List.not_mem_nil)⟩)⟩) ?_
        exact ih (sd_w (v1 + 1)) r4.2 _ h
def f_X9_full (M : sd_M) : Option (Int × sd_M) := if (M 59 0) = 0 then (some ((-1), M)) else ((f_X0_copyFrom 318 66 M).bind fun r2 => f_X9_full_31 4000 0 r2.2)
set_option maxRecDepth 4000 in
theorem t_X9_full {X : Nat → List sd_V → List sd_E → sd_A → Prop} {d : Nat} (hd : 6 ≤ d) (M : sd_M) (Rr : Int × sd_M) (h : f_X9_full M = some Rr) : sd_B X d sd_q_X9_full 0 [(0, .inr (.inr (some (0))))] [] M (some (.inl Rr.1), sd_rp Rr.2, 0, 0) := by
  unfold f_X9_full at h
  refine sd_b_go 1 (pc2 := 1) (lv2 := [(0, .inr (.inr (some (0))))]) (st2 := [.inr (.inr (some (0)))]) rfl ?_
  refine sd_b_gr (k := 5) sd_o_0 rfl rfl rfl ?_
  refine sd_b_gr (k := 0) sd_o_58 rfl rfl rfl ?_
  refine sd_b_gi (k := 0) sd_o_59 rfl rfl rfl ?_
  by_cases c1 : (M 59 0) = 0
  · rw [if_pos c1] at h
    refine sd_b_zf (c := .ne) rfl (decide_eq_false (not_not_intro c1)) (by decide) ?_
    refine sd_b_go 1 (pc2 := 14) (lv2 := [(0, .inr (.inr (some (0))))]) (st2 := [.inl ((-1))]) rfl ?_
    cases h
    exact sd_b_rt rfl rfl rfl
  · rw [if_neg c1] at h
    refine sd_b_zt (c := .ne) (tgt := 15) rfl (decide_eq_true c1) (by decide) ?_
    refine sd_b_go 1 (pc2 := 16) (lv2 := [(0, .inr (.inr (some (0))))]) (st2 := [.inr (.inr (some (0)))]) rfl ?_
    refine sd_b_gr (k := 12) sd_o_0 rfl rfl rfl ?_
    refine sd_b_go 1 (pc2 := 20) (lv2 := [(0, .inr (.inr (some (0))))]) (st2 := [.inr (.inr (some (0))), .inr (.inr (some (318)))]) rfl ?_
    refine sd_b_gr (k := 5) sd_o_0 rfl rfl rfl ?_
    refine sd_b_gr (k := 1) sd_o_58 rfl rfl rfl ?_
    obtain ⟨r2, e2, h⟩ := sd_bnd h
    refine sd_b_call [.inr (.inr (some (318))), .inr (.inr (some (66)))] [] rfl rfl sd_i_X0_copyFrom rfl rfl (Nat.le_of_ble_eq_true rfl) (sd_rc_v sd_o_318) (m_X0_copyFrom (by omega) sd_o_318 sd_o_66 e2) ?_
    refine sd_b_go 2 (pc2 := 31) (lv2 := [(1, .inl (0)), (0, .inr (.inr (some (0))))]) (st2 := []) rfl ?_
    refine sd_b_wk [(0, .inr (.inr (some (0)))), (1, .inl (0))] (List.forall_mem_cons.mpr ⟨rfl, (List.forall_mem_cons.mpr ⟨rfl, (fun _ h0 => absurd h0 List.not_mem_nil)⟩)⟩) ?_
    exact t_X9_full_31 hd 4000 0 r2.2 _ h
theorem m_X9_full {X : Nat → List sd_V → List sd_E → sd_A → Prop} {d : Nat} (hd : 7 ≤ d) {M : sd_M} {Rr : Int × sd_M} (h : f_X9_full M = some Rr) : sd_Cal X d 104 [.inr (.inr (some (0)))] (sd_rp M) (some (.inl Rr.1), sd_rp Rr.2, 0, 0) := by
  obtain ⟨d, rfl⟩ : ∃ d2, d = d2 + 1 := ⟨d - 1, by omega⟩
  exact sd_cal_of sd_i_X9_full (Nat.le_of_ble_eq_true rfl) (t_X9_full (by omega) M Rr h)
-- X9_taken
def sd_q_X9_taken : sd_MI := (yX9_taken, cX9_taken, 4, (some .int), 9, 1, sd_t_X9_taken)
set_option maxRecDepth 4000 in
theorem sd_i_X9_taken : sd_mL[105]? = some sd_q_X9_taken := rfl
def f_X9_taken_41 : Nat → Int → Int → sd_M → Option (Int × sd_M)
  | 0, _, _, _ => none
  | n + 1, v1, v2, M => if 60 ≤ v2 then (some ((-2), M)) else ((f_X9_ruleInForce M).bind fun r2 => (f_X1_pass 318 r2.1 r2.2).bind fun r3 => if r3.1 = v1 then (some (M 318 1, r3.2)) else (f_X9_taken_41 n v1 (sd_w (v2 + 1)) r3.2))
set_option maxRecDepth 4000 in
theorem t_X9_taken_41 {X : Nat → List sd_V → List sd_E → sd_A → Prop} {d : Nat} (hd : 6 ≤ d) : ∀ (n : Nat) (v1 : Int) (v2 : Int) (M : sd_M) (Rr : Int × sd_M), f_X9_taken_41 n v1 v2 M = some Rr → sd_B X d sd_q_X9_taken 41 [(0, .inr (.inr (some (0)))), (1, .inl (v1)), (2, .inl (v2))] [] M (some (.inl Rr.1), sd_rp Rr.2, 0, 0) := by
  intro n
  induction n with
  | zero => intro v1 v2 M Rr h; cases h
  | succ n ih =>
    intro v1 v2 M Rr h
    rw [f_X9_taken_41] at h
    refine sd_b_go 2 (pc2 := 44) (lv2 := [(0, .inr (.inr (some (0)))), (1, .inl (v1)), (2, .inl (v2))]) (st2 := [.inl (60), .inl (v2)]) rfl ?_
    by_cases c1 : 60 ≤ v2
    · rw [if_pos c1] at h
      refine sd_b_ct (c := .ge) (tgt := 89) rfl (decide_eq_true c1) (by decide) ?_
      refine sd_b_go 1 (pc2 := 91) (lv2 := [(0, .inr (.inr (some (0)))), (1, .inl (v1)), (2, .inl (v2))]) (st2 := [.inl ((-2))]) rfl ?_
      cases h
      exact sd_b_rt rfl rfl rfl
    · rw [if_neg c1] at h
      refine sd_b_cf (c := .ge) rfl (decide_eq_false c1) (by decide) ?_
      refine sd_b_go 1 (pc2 := 48) (lv2 := [(0, .inr (.inr (some (0)))), (1, .inl (v1)), (2, .inl (v2))]) (st2 := [.inr (.inr (some (0)))]) rfl ?_
      refine sd_b_gr (k := 12) sd_o_0 rfl rfl rfl ?_
      refine sd_b_gi (k := 1) sd_o_318 rfl rfl rfl ?_
      refine sd_b_go 2 (pc2 := 56) (lv2 := [(3, .inl (M 318 1)), (0, .inr (.inr (some (0)))), (1, .inl (v1)), (2, .inl (v2))]) (st2 := [.inr (.inr (some (0)))]) rfl ?_
      refine sd_b_gr (k := 11) sd_o_0 rfl rfl rfl ?_
      refine sd_b_go 1 (pc2 := 60) (lv2 := [(3, .inl (M 318 1)), (0, .inr (.inr (some (0)))), (1, .inl (v1)), (2, .inl (v2))]) (st2 := [.inr (.inr (some (0))), .inr (.inr (some (316)))]) rfl ?_
      refine sd_b_gr (k := 12) sd_o_0 rfl rfl rfl ?_
      refine sd_b_go 1 (pc2 := 64) (lv2 := [(3, .inl (M 318 1)), (0, .inr (.inr (some (0)))), (1, .inl (v1)), (2, .inl (v2))]) (st2 := [.inr (.inr (some (0))), .inr (.inr (some (318))), .inr (.inr (some (316)))]) rfl ?_
      refine sd_b_gr (k := 5) sd_o_0 rfl rfl rfl ?_
      refine sd_b_gr (k := 0) sd_o_58 rfl rfl rfl ?_
      refine sd_b_go 1 (pc2 := 71) (lv2 := [(3, .inl (M 318 1)), (0, .inr (.inr (some (0)))), (1, .inl (v1)), (2, .inl (v2))]) (st2 := [.inr (.inr (some (0))), .inr (.inr (some (59))), .inr (.inr (some (318))), .inr (.inr (some (316)))]) rfl ?_
      obtain ⟨r2, e2, h⟩ := sd_bnd h
      refine sd_b_call [.inr (.inr (some (0)))] [.inr (.inr (some (59))), .inr (.inr (some (318))), .inr (.inr (some (316)))] rfl rfl sd_i_X9_ruleInForce rfl rfl (Nat.le_of_ble_eq_true rfl) (sd_rc_v sd_o_0) (m_X9_ruleInForce (by omega) e2) ?_
      obtain ⟨r3, e3, h⟩ := sd_bnd h
      refine sd_b_call [.inr (.inr (some (316))), .inr (.inr (some (318))), .inr (.inr (some (59))), .inr (.inr (r2.1))] [] rfl rfl sd_i_X1_pass rfl rfl (Nat.le_of_ble_eq_true rfl) (sd_rc_v sd_o_316) (m_X1_pass (by omega) sd_o_318 (n_X9_ruleInForce e2) e3) ?_
      refine sd_b_go 1 (pc2 := 78) (lv2 := [(3, .inl (M 318 1)), (0, .inr (.inr (some (0)))), (1, .inl (v1)), (2, .inl (v2))]) (st2 := [.inl (v1), .inl (r3.1)]) rfl ?_
      by_cases c4 : r3.1 = v1
      · rw [if_pos c4] at h
        refine sd_b_cf (c := .ne) rfl (decide_eq_false (not_not_intro c4)) (by decide) ?_
        refine sd_b_go 1 (pc2 := 82) (lv2 := [(3, .inl (M 318 1)), (0, .inr (.inr (some (0)))), (1, .inl (v1)), (2, .inl (v2))]) (st2 := [.inl (M 318 1)]) rfl ?_
        cases h
        exact sd_b_rt rfl rfl rfl
      · rw [if_neg c4] at h
        refine sd_b_ct (c := .ne) (tgt := 83) rfl (decide_eq_true c4) (by decide) ?_
        refine sd_b_go 2 (pc2 := 41) (lv2 := [(2, .inl (sd_w (v2 + 1))), (3, .inl (M 318 1)), (0, .inr (.inr (some (0)))), (1, .inl (v1))]) (st2 := []) rfl ?_
        refine sd_b_wk [(0, .inr (.inr (some (0)))), (1, .inl (v1)), (2, .inl (sd_w (v2 + 1)))] (List.forall_mem_cons.mpr ⟨rfl, (List.forall_mem_cons.mpr ⟨rfl, (List.forall_mem_cons.mpr ⟨rfl, (fun _ h0 => absurd h0 List.not_mem_nil)⟩)⟩)⟩) ?_
        exact ih v1 (sd_w (v2 + 1)) r3.2 _ h
def f_X9_taken (p1 : Int) (M : sd_M) : Option (Int × sd_M) := (f_X9_isOffer p1 M).bind fun r1 => if r1.1 = 0 then (some ((-1), r1.2)) else (if 0 ≤ p1 ∧ p1 < 9 then (if ((r1.2) 69 p1.toNat) = 0 then ((f_X0_copyFrom 318 66 r1.2).bind fun r5 => f_X9_taken_41 4000 p1 0 r5.2) else (some ((-1), r1.2))) else none)
set_option maxRecDepth 4000 in
theorem t_X9_taken {X : Nat → List sd_V → List sd_E → sd_A → Prop} {d : Nat} (hd : 6 ≤ d) (p1 : Int) (M : sd_M) (Rr : Int × sd_M) (h : f_X9_taken p1 M = some Rr) : sd_B X d sd_q_X9_taken 0 [(0, .inr (.inr (some (0)))), (1, .inl (p1))] [] M (some (.inl Rr.1), sd_rp Rr.2, 0, 0) := by
  unfold f_X9_taken at h
  refine sd_b_go 2 (pc2 := 2) (lv2 := [(0, .inr (.inr (some (0)))), (1, .inl (p1))]) (st2 := [.inl (p1), .inr (.inr (some (0)))]) rfl ?_
  obtain ⟨r1, e1, h⟩ := sd_bnd h
  refine sd_b_call [.inr (.inr (some (0))), .inl (p1)] [] rfl rfl sd_i_X9_isOffer rfl rfl (Nat.le_of_ble_eq_true rfl) (sd_rc_v sd_o_0) (m_X9_isOffer (by omega) e1) ?_
  by_cases c2 : r1.1 = 0
  · rw [if_pos c2] at h
    refine sd_b_zt (c := .eq) (tgt := 23) rfl (decide_eq_true c2) (by decide) ?_
    refine sd_b_go 1 (pc2 := 24) (lv2 := [(0, .inr (.inr (some (0)))), (1, .inl (p1))]) (st2 := [.inl ((-1))]) rfl ?_
    cases h
    exact sd_b_rt rfl rfl rfl
  · rw [if_neg c2] at h
    refine sd_b_zf (c := .eq) rfl (decide_eq_false c2) (by decide) ?_
    refine sd_b_go 1 (pc2 := 9) (lv2 := [(0, .inr (.inr (some (0)))), (1, .inl (p1))]) (st2 := [.inr (.inr (some (0)))]) rfl ?_
    refine sd_b_gr (k := 5) sd_o_0 rfl rfl rfl ?_
    refine sd_b_gr (k := 1) sd_o_58 rfl rfl rfl ?_
    refine sd_b_gr (k := 7) sd_o_66 rfl rfl rfl ?_
    refine sd_b_go 1 (pc2 := 19) (lv2 := [(0, .inr (.inr (some (0)))), (1, .inl (p1))]) (st2 := [.inl (p1), .inr (.inr (some (69)))]) rfl ?_
    obtain ⟨g3, h⟩ := sd_if h
    refine sd_b_ai (sd_oa sd_o_66 (by decide) (off := 3) (List.mem_of_getElem? (i := 2) rfl)) g3 rfl ?_
    by_cases c4 : ((r1.2) 69 p1.toNat) = 0
    · rw [if_pos c4] at h
      refine sd_b_zt (c := .eq) (tgt := 25) rfl (decide_eq_true c4) (by decide) ?_
      refine sd_b_go 1 (pc2 := 26) (lv2 := [(0, .inr (.inr (some (0)))), (1, .inl (p1))]) (st2 := [.inr (.inr (some (0)))]) rfl ?_
      refine sd_b_gr (k := 12) sd_o_0 rfl rfl rfl ?_
      refine sd_b_go 1 (pc2 := 30) (lv2 := [(0, .inr (.inr (some (0)))), (1, .inl (p1))]) (st2 := [.inr (.inr (some (0))), .inr (.inr (some (318)))]) rfl ?_
      refine sd_b_gr (k := 5) sd_o_0 rfl rfl rfl ?_
      refine sd_b_gr (k := 1) sd_o_58 rfl rfl rfl ?_
      obtain ⟨r5, e5, h⟩ := sd_bnd h
      refine sd_b_call [.inr (.inr (some (318))), .inr (.inr (some (66)))] [] rfl rfl sd_i_X0_copyFrom rfl rfl (Nat.le_of_ble_eq_true rfl) (sd_rc_v sd_o_318) (m_X0_copyFrom (by omega) sd_o_318 sd_o_66 e5) ?_
      refine sd_b_go 2 (pc2 := 41) (lv2 := [(2, .inl (0)), (0, .inr (.inr (some (0)))), (1, .inl (p1))]) (st2 := []) rfl ?_
      refine sd_b_wk [(0, .inr (.inr (some (0)))), (1, .inl (p1)), (2, .inl (0))] (List.forall_mem_cons.mpr ⟨rfl, (List.forall_mem_cons.mpr ⟨rfl, (List.forall_mem_cons.mpr ⟨rfl, (fun _ h0 => absurd h0 List.not_mem_nil)⟩)⟩)⟩) ?_
      exact t_X9_taken_41 hd 4000 p1 0 r5.2 _ h
    · rw [if_neg c4] at h
      refine sd_b_zf (c := .eq) rfl (decide_eq_false c4) (by decide) ?_
      refine sd_b_go 1 (pc2 := 24) (lv2 := [(0, .inr (.inr (some (0)))), (1, .inl (p1))]) (st2 := [.inl ((-1))]) rfl ?_
      cases h
      exact sd_b_rt rfl rfl rfl
theorem m_X9_taken {X : Nat → List sd_V → List sd_E → sd_A → Prop} {d : Nat} (hd : 7 ≤ d) {p1 : Int} {M : sd_M} {Rr : Int × sd_M} (h : f_X9_taken p1 M = some Rr) : sd_Cal X d 105 [.inr (.inr (some (0))), .inl (p1)] (sd_rp M) (some (.inl Rr.1), sd_rp Rr.2, 0, 0) := by
  obtain ⟨d, rfl⟩ : ∃ d2, d = d2 + 1 := ⟨d - 1, by omega⟩
  exact sd_cal_of sd_i_X9_taken (Nat.le_of_ble_eq_true rfl) (t_X9_taken (by omega) p1 M Rr h)
-- X9_drawCancelling
def sd_q_X9_drawCancelling : sd_MI := (yX9_drawCancelling, cX9_drawCancelling, 4, none, 9, 1, sd_t_X9_drawCancelling)
set_option maxRecDepth 4000 in
theorem sd_i_X9_drawCancelling : sd_mL[107]? = some sd_q_X9_drawCancelling := rfl
def f_X9_drawCancelling (p1 : Int) (M : sd_M) : Option (Int × sd_M) := (f_X2_draw 58 M).bind fun r1 => if p1 ≤ (Int.tmod r1.1 100) then (some (0, r1.2)) else (if (M 59 2) ≤ 0 then (some (0, r1.2)) else ((f_X2_draw 58 r1.2).bind fun r4 => if (M 59 2) ≠ 0 then ((f_X0_isOn 318 (Int.tmod r4.1 (M 59 2)) r4.2).bind fun r6 => if r6.1 = 0 then (some (0, r6.2)) else ((f_X0_strike 318 (Int.tmod r4.1 (M 59 2)) r6.2).bind fun r8 => some (0, r8.2))) else none))
set_option maxRecDepth 4000 in
theorem t_X9_drawCancelling {X : Nat → List sd_V → List sd_E → sd_A → Prop} {d : Nat} (hd : 6 ≤ d) (p1 : Int) (M : sd_M) (Rr : Int × sd_M) (h : f_X9_drawCancelling p1 M = some Rr) : sd_B X d sd_q_X9_drawCancelling 0 [(0, .inr (.inr (some (0)))), (1, .inl (p1))] [] M (none, sd_rp Rr.2, 0, 0) := by
  unfold f_X9_drawCancelling at h
  refine sd_b_go 1 (pc2 := 1) (lv2 := [(0, .inr (.inr (some (0)))), (1, .inl (p1))]) (st2 := [.inr (.inr (some (0)))]) rfl ?_
  refine sd_b_gr (k := 5) sd_o_0 rfl rfl rfl ?_
  refine sd_b_gr (k := 0) sd_o_58 rfl rfl rfl ?_
  refine sd_b_gi (k := 2) sd_o_59 rfl rfl rfl ?_
  refine sd_b_go 2 (pc2 := 12) (lv2 := [(2, .inl (M 59 2)), (0, .inr (.inr (some (0)))), (1, .inl (p1))]) (st2 := [.inr (.inr (some (0)))]) rfl ?_
  refine sd_b_gr (k := 5) sd_o_0 rfl rfl rfl ?_
  obtain ⟨r1, e1, h⟩ := sd_bnd h
  refine sd_b_call [.inr (.inr (some (58)))] [] rfl rfl sd_i_X2_draw rfl rfl (Nat.le_of_ble_eq_true rfl) (sd_rc_v sd_o_58) (m_X2_draw (by omega) sd_o_58 e1) ?_
  refine sd_b_go 1 (pc2 := 20) (lv2 := [(2, .inl (M 59 2)), (0, .inr (.inr (some (0)))), (1, .inl (p1))]) (st2 := [.inl (100), .inl (r1.1)]) rfl ?_
  refine sd_b_mz (by decide) rfl ?_
  refine sd_b_go 1 (pc2 := 22) (lv2 := [(2, .inl (M 59 2)), (0, .inr (.inr (some (0)))), (1, .inl (p1))]) (st2 := [.inl (p1), .inl (Int.tmod r1.1 100)]) rfl ?_
  by_cases c2 : p1 ≤ (Int.tmod r1.1 100)
  · rw [if_pos c2] at h
    refine sd_b_ct (c := .ge) (tgt := 66) rfl (decide_eq_true c2) (by decide) ?_
    cases h
    exact sd_b_rt rfl rfl rfl
  · rw [if_neg c2] at h
    refine sd_b_cf (c := .ge) rfl (decide_eq_false c2) (by decide) ?_
    refine sd_b_go 1 (pc2 := 26) (lv2 := [(2, .inl (M 59 2)), (0, .inr (.inr (some (0)))), (1, .inl (p1))]) (st2 := [.inl (M 59 2)]) rfl ?_
    by_cases c3 : (M 59 2) ≤ 0
    · rw [if_pos c3] at h
      refine sd_b_zt (c := .le) (tgt := 66) rfl (decide_eq_true c3) (by decide) ?_
      cases h
      exact sd_b_rt rfl rfl rfl
    · rw [if_neg c3] at h
      refine sd_b_zf (c := .le) rfl (decide_eq_false c3) (by decide) ?_
      refine sd_b_go 1 (pc2 := 30) (lv2 := [(2, .inl (M 59 2)), (0, .inr (.inr (some (0)))), (1, .inl (p1))]) (st2 := [.inr (.inr (some (0)))]) rfl ?_
      refine sd_b_gr (k := 5) sd_o_0 rfl rfl rfl ?_
      obtain ⟨r4, e4, h⟩ := sd_bnd h
      refine sd_b_call [.inr (.inr (some (58)))] [] rfl rfl sd_i_X2_draw rfl rfl (Nat.le_of_ble_eq_true rfl) (sd_rc_v sd_o_58) (m_X2_draw (by omega) sd_o_58 e4) ?_
      refine sd_b_go 1 (pc2 := 37) (lv2 := [(2, .inl (M 59 2)), (0, .inr (.inr (some (0)))), (1, .inl (p1))]) (st2 := [.inl (M 59 2), .inl (r4.1)]) rfl ?_
      obtain ⟨g5, h⟩ := sd_if h
      refine sd_b_mz g5 rfl ?_
      refine sd_b_go 2 (pc2 := 40) (lv2 := [(3, .inl (Int.tmod r4.1 (M 59 2))), (2, .inl (M 59 2)), (0, .inr (.inr (some (0)))), (1, .inl (p1))]) (st2 := [.inr (.inr (some (0)))]) rfl ?_
      refine sd_b_gr (k := 12) sd_o_0 rfl rfl rfl ?_
      refine sd_b_go 1 (pc2 := 44) (lv2 := [(3, .inl (Int.tmod r4.1 (M 59 2))), (2, .inl (M 59 2)), (0, .inr (.inr (some (0)))), (1, .inl (p1))]) (st2 := [.inl (Int.tmod r4.1 (M 59 2)), .inr (.inr (some (318)))]) rfl ?_
      obtain ⟨r6, e6, h⟩ := sd_bnd h
      refine sd_b_call [.inr (.inr (some (318))), .inl (Int.tmod r4.1 (M 59 2))] [] rfl rfl sd_i_X0_isOn rfl rfl (Nat.le_of_ble_eq_true rfl) (sd_rc_v sd_o_318) (m_X0_isOn (by omega) sd_o_318 e6) ?_
      by_cases c7 : r6.1 = 0
      · rw [if_pos c7] at h
        refine sd_b_zt (c := .eq) (tgt := 66) rfl (decide_eq_true c7) (by decide) ?_
        cases h
        exact sd_b_rt rfl rfl rfl
      · rw [if_neg c7] at h
        refine sd_b_zf (c := .eq) rfl (decide_eq_false c7) (by decide) ?_
        refine sd_b_go 1 (pc2 := 51) (lv2 := [(3, .inl (Int.tmod r4.1 (M 59 2))), (2, .inl (M 59 2)), (0, .inr (.inr (some (0)))), (1, .inl (p1))]) (st2 := [.inr (.inr (some (0)))]) rfl ?_
        refine sd_b_gr (k := 12) sd_o_0 rfl rfl rfl ?_
        refine sd_b_go 2 (pc2 := 56) (lv2 := [(3, .inl (Int.tmod r4.1 (M 59 2))), (2, .inl (M 59 2)), (0, .inr (.inr (some (0)))), (1, .inl (p1))]) (st2 := [.inr (.inr (some (0))), .inl (Int.tmod r4.1 (M 59 2)), .inr (.inr (some (318)))]) rfl ?_
        refine sd_b_gr (k := 5) sd_o_0 rfl rfl rfl ?_
        refine sd_b_gr (k := 0) sd_o_58 rfl rfl rfl ?_
        obtain ⟨r8, e8, h⟩ := sd_bnd h
        refine sd_b_call [.inr (.inr (some (318))), .inl (Int.tmod r4.1 (M 59 2)), .inr (.inr (some (59)))] [] rfl rfl sd_i_X0_strike rfl rfl (Nat.le_of_ble_eq_true rfl) (sd_rc_v sd_o_318) (m_X0_strike (by omega) sd_o_318 e8) ?_
        refine sd_b_go 1 (pc2 := 66) (lv2 := [(3, .inl (Int.tmod r4.1 (M 59 2))), (2, .inl (M 59 2)), (0, .inr (.inr (some (0)))), (1, .inl (p1))]) (st2 := []) rfl ?_
        cases h
        exact sd_b_rt rfl rfl rfl
theorem m_X9_drawCancelling {X : Nat → List sd_V → List sd_E → sd_A → Prop} {d : Nat} (hd : 7 ≤ d) {p1 : Int} {M : sd_M} {Rr : Int × sd_M} (h : f_X9_drawCancelling p1 M = some Rr) : sd_Cal X d 107 [.inr (.inr (some (0))), .inl (p1)] (sd_rp M) (none, sd_rp Rr.2, 0, 0) := by
  obtain ⟨d, rfl⟩ : ∃ d2, d = d2 + 1 := ⟨d - 1, by omega⟩
  exact sd_cal_of sd_i_X9_drawCancelling (Nat.le_of_ble_eq_true rfl) (t_X9_drawCancelling (by omega) p1 M Rr h)
-- X9_layCourses
def sd_q_X9_layCourses : sd_MI := (yX9_layCourses, cX9_layCourses, 7, (some .int), 9, 0, sd_t_X9_layCourses)
set_option maxRecDepth 4000 in
theorem sd_i_X9_layCourses : sd_mL[114]? = some sd_q_X9_layCourses := rfl
def f_X9_layCourses_44 (k113 : Int → Int → Int → sd_M → Option (Int × sd_M)) : Nat → Int → Int → Option Nat → Int → Int → sd_M → Option (Int × sd_M)
  | 0, _, _, _, _, _, _ => none
  | n + 1, v1, v2, v3, v4, v5, M => if 31 ≤ v5 then (k113 v1 v2 v4 M) else (if v4 = 0 then (k113 v1 v2 v4 M) else ((f_X1_pass 318 v3 M).bind fun r3 => if 0 ≤ (sd_w ((sd_w (v1 * 31)) + v5)) ∧ (sd_w ((sd_w (v1 * 31)) + v5)) < 217 then ((f_X3_allow 74 v5 r3.1 (sd_s r3.2 329 (sd_w ((sd_w (v1 * 31)) + v5)).toNat r3.1)).bind fun r5 => f_X9_layCourses_44 k113 n v1 v2 v3 r5.1 (sd_w (v5 + 1)) r5.2) else none))
set_option maxRecDepth 4000 in
theorem t_X9_layCourses_44 {X : Nat → List sd_V → List sd_E → sd_A → Prop} {d : Nat} (hd : 6 ≤ d) (k113 : Int → Int → Int → sd_M → Option (Int × sd_M)) (hk113 : ∀ (v1 : Int) (v2 : Int) (v4 : Int) (M : sd_M) (Rr : Int × sd_M), k113 v1 v2 v4 M = some Rr → sd_B X d sd_q_X9_layCourses 113 [(0, .inr (.inr (some (0)))), (1, .inl (v1)), (2, .inl (v2)), (4, .inl (v4))] [] M (some (.inl Rr.1), sd_rp Rr.2, 0, 0)) : ∀ (n : Nat) (v1 : Int) (v2 : Int) (v3 : Option Nat) (v4 : Int) (v5 : Int) (M : sd_M) (Rr : Int × sd_M), (∀ a, v3 = some a → sd_o a 4) → f_X9_layCourses_44 k113 n v1 v2 v3 v4 v5 M = some Rr → sd_B X d sd_q_X9_layCourses 44 [(0, .inr (.inr (some (0)))), (1, .inl (v1)), (2, .inl (v2)), (3, .inr (.inr v3)), (4, .inl (v4)), (5, .inl (v5))] [] M (some (.inl Rr.1), sd_rp Rr.2, 0, 0) := by
  intro n
  induction n with
  | zero => intro v1 v2 v3 v4 v5 M Rr h_v3 h; cases h
  | succ n ih =>
    intro v1 v2 v3 v4 v5 M Rr h_v3 h
    rw [f_X9_layCourses_44] at h
    refine sd_b_go 2 (pc2 := 48) (lv2 := [(0, .inr (.inr (some (0)))), (1, .inl (v1)), (2, .inl (v2)), (3, .inr (.inr v3)), (4, .inl (v4)), (5, .inl (v5))]) (st2 := [.inl (31), .inl (v5)]) rfl ?_
    by_cases c1 : 31 ≤ v5
    · rw [if_pos c1] at h
      refine sd_b_ct (c := .ge) (tgt := 113) rfl (decide_eq_true c1) (by decide) ?_
      refine sd_b_wk [(0, .inr (.inr (some (0)))), (1, .inl (v1)), (2, .inl (v2)), (4, .inl (v4))] (List.forall_mem_cons.mpr ⟨rfl, (List.forall_mem_cons.mpr ⟨rfl, (List.forall_mem_cons.mpr ⟨rfl, (List.forall_mem_cons.mpr ⟨rfl, (fun _ h0 => absurd h0 List.not_mem_nil)⟩)⟩)⟩)⟩) ?_
      exact hk113 v1 v2 v4 M _ h
    · rw [if_neg c1] at h
      refine sd_b_cf (c := .ge) rfl (decide_eq_false c1) (by decide) ?_
      refine sd_b_go 1 (pc2 := 53) (lv2 := [(0, .inr (.inr (some (0)))), (1, .inl (v1)), (2, .inl (v2)), (3, .inr (.inr v3)), (4, .inl (v4)), (5, .inl (v5))]) (st2 := [.inl (v4)]) rfl ?_
      by_cases c2 : v4 = 0
      · rw [if_pos c2] at h
        refine sd_b_zt (c := .eq) (tgt := 113) rfl (decide_eq_true c2) (by decide) ?_
        refine sd_b_wk [(0, .inr (.inr (some (0)))), (1, .inl (v1)), (2, .inl (v2)), (4, .inl (v4))] (List.forall_mem_cons.mpr ⟨rfl, (List.forall_mem_cons.mpr ⟨rfl, (List.forall_mem_cons.mpr ⟨rfl, (List.forall_mem_cons.mpr ⟨rfl, (fun _ h0 => absurd h0 List.not_mem_nil)⟩)⟩)⟩)⟩) ?_
        exact hk113 v1 v2 v4 M _ h
      · rw [if_neg c2] at h
        refine sd_b_zf (c := .eq) rfl (decide_eq_false c2) (by decide) ?_
        refine sd_b_go 1 (pc2 := 57) (lv2 := [(0, .inr (.inr (some (0)))), (1, .inl (v1)), (2, .inl (v2)), (3, .inr (.inr v3)), (4, .inl (v4)), (5, .inl (v5))]) (st2 := [.inr (.inr (some (0)))]) rfl ?_
        refine sd_b_gr (k := 11) sd_o_0 rfl rfl rfl ?_
        refine sd_b_go 1 (pc2 := 61) (lv2 := [(0, .inr (.inr (some (0)))), (1, .inl (v1)), (2, .inl (v2)), (3, .inr (.inr v3)), (4, .inl (v4)), (5, .inl (v5))]) (st2 := [.inr (.inr (some (0))), .inr (.inr (some (316)))]) rfl ?_
        refine sd_b_gr (k := 12) sd_o_0 rfl rfl rfl ?_
        refine sd_b_go 1 (pc2 := 65) (lv2 := [(0, .inr (.inr (some (0)))), (1, .inl (v1)), (2, .inl (v2)), (3, .inr (.inr v3)), (4, .inl (v4)), (5, .inl (v5))]) (st2 := [.inr (.inr (some (0))), .inr (.inr (some (318))), .inr (.inr (some (316)))]) rfl ?_
        refine sd_b_gr (k := 5) sd_o_0 rfl rfl rfl ?_
        refine sd_b_gr (k := 0) sd_o_58 rfl rfl rfl ?_
        refine sd_b_go 1 (pc2 := 72) (lv2 := [(0, .inr (.inr (some (0)))), (1, .inl (v1)), (2, .inl (v2)), (3, .inr (.inr v3)), (4, .inl (v4)), (5, .inl (v5))]) (st2 := [.inr (.inr v3), .inr (.inr (some (59))), .inr (.inr (some (318))), .inr (.inr (some (316)))]) rfl ?_
        obtain ⟨r3, e3, h⟩ := sd_bnd h
        refine sd_b_call [.inr (.inr (some (316))), .inr (.inr (some (318))), .inr (.inr (some (59))), .inr (.inr v3)] [] rfl rfl sd_i_X1_pass rfl rfl (Nat.le_of_ble_eq_true rfl) (sd_rc_v sd_o_316) (m_X1_pass (by omega) sd_o_318 h_v3 e3) ?_
        refine sd_b_go 2 (pc2 := 78) (lv2 := [(6, .inl (r3.1)), (0, .inr (.inr (some (0)))), (1, .inl (v1)), (2, .inl (v2)), (3, .inr (.inr v3)), (4, .inl (v4)), (5, .inl (v5))]) (st2 := [.inr (.inr (some (0)))]) rfl ?_
        refine sd_b_gr (k := 16) sd_o_0 rfl rfl rfl ?_
        refine sd_b_go 6 (pc2 := 90) (lv2 := [(6, .inl (r3.1)), (0, .inr (.inr (some (0)))), (1, .inl (v1)), (2, .inl (v2)), (3, .inr (.inr v3)), (4, .inl (v4)), (5, .inl (v5))]) (st2 := [.inl (r3.1), .inl (sd_w ((sd_w (v1 * 31)) + v5)), .inr (.inr (some (329)))]) rfl ?_
        obtain ⟨g4, h⟩ := sd_if h
        refine sd_b_si (sd_oa sd_o_0 (by decide) (off := 329) (List.mem_of_getElem? (i := 4) rfl)) g4 rfl ?_
        refine sd_b_go 1 (pc2 := 92) (lv2 := [(6, .inl (r3.1)), (0, .inr (.inr (some (0)))), (1, .inl (v1)), (2, .inl (v2)), (3, .inr (.inr v3)), (4, .inl (v4)), (5, .inl (v5))]) (st2 := [.inr (.inr (some (0)))]) rfl ?_
        refine sd_b_gr (k := 5) sd_o_0 rfl rfl rfl ?_
        refine sd_b_gr (k := 2) sd_o_58 rfl rfl rfl ?_
        refine sd_b_go 2 (pc2 := 102) (lv2 := [(6, .inl (r3.1)), (0, .inr (.inr (some (0)))), (1, .inl (v1)), (2, .inl (v2)), (3, .inr (.inr v3)), (4, .inl (v4)), (5, .inl (v5))]) (st2 := [.inl (r3.1), .inl (v5), .inr (.inr (some (74)))]) rfl ?_
        obtain ⟨r5, e5, h⟩ := sd_bnd h
        refine sd_b_call [.inr (.inr (some (74))), .inl (v5), .inl (r3.1)] [] rfl rfl sd_i_X3_allow rfl rfl (Nat.le_of_ble_eq_true rfl) (sd_rc_v sd_o_74) (m_X3_allow (by omega) sd_o_74 e5) ?_
        refine sd_b_go 3 (pc2 := 44) (lv2 := [(5, .inl (sd_w (v5 + 1))), (4, .inl (r5.1)), (6, .inl (r3.1)), (0, .inr (.inr (some (0)))), (1, .inl (v1)), (2, .inl (v2)), (3, .inr (.inr v3))]) (st2 := []) rfl ?_
        refine sd_b_wk [(0, .inr (.inr (some (0)))), (1, .inl (v1)), (2, .inl (v2)), (3, .inr (.inr v3)), (4, .inl (r5.1)), (5, .inl (sd_w (v5 + 1)))] (List.forall_mem_cons.mpr ⟨rfl, (List.forall_mem_cons.mpr ⟨rfl, (List.forall_mem_cons.mpr ⟨rfl, (List.forall_mem_cons.mpr ⟨rfl, (List.forall_mem_cons.mpr ⟨rfl, (List.forall_mem_cons.mpr ⟨rfl, (fun _ h0 => absurd h0 List.not_mem_nil)⟩)⟩)⟩)⟩)⟩)⟩) ?_
        exact ih v1 v2 v3 r5.1 (sd_w (v5 + 1)) r5.2 _ h_v3 h
def f_X9_layCourses_121 (k4 : Int → Int → sd_M → Option (Int × sd_M)) (v1 : Int) (v2 : Int) (M : sd_M) : Option (Int × sd_M) := k4 v1 (sd_w (v2 + 1)) M
set_option maxRecDepth 4000 in
theorem t_X9_layCourses_121 {X : Nat → List sd_V → List sd_E → sd_A → Prop} {d : Nat} (hd : 6 ≤ d) (k4 : Int → Int → sd_M → Option (Int × sd_M)) (hk4 : ∀ (v1 : Int) (v2 : Int) (M : sd_M) (Rr : Int × sd_M), k4 v1 v2 M = some Rr → sd_B X d sd_q_X9_layCourses 4 [(0, .inr (.inr (some (0)))), (1, .inl (v1)), (2, .inl (v2))] [] M (some (.inl Rr.1), sd_rp Rr.2, 0, 0)) (v1 : Int) (v2 : Int) (M : sd_M) (Rr : Int × sd_M) (h : f_X9_layCourses_121 k4 v1 v2 M = some Rr) : sd_B X d sd_q_X9_layCourses 121 [(0, .inr (.inr (some (0)))), (1, .inl (v1)), (2, .inl (v2))] [] M (some (.inl Rr.1), sd_rp Rr.2, 0, 0) := by
  unfold f_X9_layCourses_121 at h
  refine sd_b_go 2 (pc2 := 4) (lv2 := [(2, .inl (sd_w (v2 + 1))), (0, .inr (.inr (some (0)))), (1, .inl (v1))]) (st2 := []) rfl ?_
  refine sd_b_wk [(0, .inr (.inr (some (0)))), (1, .inl (v1)), (2, .inl (sd_w (v2 + 1)))] (List.forall_mem_cons.mpr ⟨rfl, (List.forall_mem_cons.mpr ⟨rfl, (List.forall_mem_cons.mpr ⟨rfl, (fun _ h0 => absurd h0 List.not_mem_nil)⟩)⟩)⟩) ?_
  exact hk4 v1 (sd_w (v2 + 1)) M _ h
def f_X9_layCourses_113 (k4 : Int → Int → sd_M → Option (Int × sd_M)) (v1 : Int) (v2 : Int) (v4 : Int) (M : sd_M) : Option (Int × sd_M) := if v4 = 0 then (f_X9_layCourses_121 k4 v1 v2 M) else (f_X9_layCourses_121 k4 (sd_w (v1 + 1)) v2 M)
set_option maxRecDepth 4000 in
theorem t_X9_layCourses_113 {X : Nat → List sd_V → List sd_E → sd_A → Prop} {d : Nat} (hd : 6 ≤ d) (k4 : Int → Int → sd_M → Option (Int × sd_M)) (hk4 : ∀ (v1 : Int) (v2 : Int) (M : sd_M) (Rr : Int × sd_M), k4 v1 v2 M = some Rr → sd_B X d sd_q_X9_layCourses 4 [(0, .inr (.inr (some (0)))), (1, .inl (v1)), (2, .inl (v2))] [] M (some (.inl Rr.1), sd_rp Rr.2, 0, 0)) (v1 : Int) (v2 : Int) (v4 : Int) (M : sd_M) (Rr : Int × sd_M) (h : f_X9_layCourses_113 k4 v1 v2 v4 M = some Rr) : sd_B X d sd_q_X9_layCourses 113 [(0, .inr (.inr (some (0)))), (1, .inl (v1)), (2, .inl (v2)), (4, .inl (v4))] [] M (some (.inl Rr.1), sd_rp Rr.2, 0, 0) := by
  unfold f_X9_layCourses_113 at h
  refine sd_b_go 1 (pc2 := 115) (lv2 := [(0, .inr (.inr (some (0)))), (1, .inl (v1)), (2, .inl (v2)), (4, .inl (v4))]) (st2 := [.inl (v4)]) rfl ?_
  by_cases c1 : v4 = 0
  · rw [if_pos c1] at h
    refine sd_b_zt (c := .eq) (tgt := 121) rfl (decide_eq_true c1) (by decide) ?_
    refine sd_b_wk [(0, .inr (.inr (some (0)))), (1, .inl (v1)), (2, .inl (v2))] (List.forall_mem_cons.mpr ⟨rfl, (List.forall_mem_cons.mpr ⟨rfl, (List.forall_mem_cons.mpr ⟨rfl, (fun _ h0 => absurd h0 List.not_mem_nil)⟩)⟩)⟩) ?_
    exact t_X9_layCourses_121 hd k4 hk4 v1 v2 M _ h
  · rw [if_neg c1] at h
    refine sd_b_zf (c := .eq) rfl (decide_eq_false c1) (by decide) ?_
    refine sd_b_go 1 (pc2 := 121) (lv2 := [(1, .inl (sd_w (v1 + 1))), (0, .inr (.inr (some (0)))), (2, .inl (v2)), (4, .inl (v4))]) (st2 := []) rfl ?_
    refine sd_b_wk [(0, .inr (.inr (some (0)))), (1, .inl (sd_w (v1 + 1))), (2, .inl (v2))] (List.forall_mem_cons.mpr ⟨rfl, (List.forall_mem_cons.mpr ⟨rfl, (List.forall_mem_cons.mpr ⟨rfl, (fun _ h0 => absurd h0 List.not_mem_nil)⟩)⟩)⟩) ?_
    exact t_X9_layCourses_121 hd k4 hk4 (sd_w (v1 + 1)) v2 M _ h
def f_X9_layCourses_4 : Nat → Int → Int → sd_M → Option (Int × sd_M)
  | 0, _, _, _ => none
  | n + 1, v1, v2, M => if (M 0 4) ≤ v2 then (some (v1, M)) else (if 6 < v1 then (some (v1, M)) else ((f_X9_ruleAt v2 M).bind fun r3 => (f_X0_begin 318 r3.2).bind fun r4 => f_X9_layCourses_44 (f_X9_layCourses_113 (f_X9_layCourses_4 n)) 4000 v1 v2 r3.1 1 0 r4.2))
set_option maxRecDepth 4000 in
theorem t_X9_layCourses_4 {X : Nat → List sd_V → List sd_E → sd_A → Prop} {d : Nat} (hd : 6 ≤ d) : ∀ (n : Nat) (v1 : Int) (v2 : Int) (M : sd_M) (Rr : Int × sd_M), f_X9_layCourses_4 n v1 v2 M = some Rr → sd_B X d sd_q_X9_layCourses 4 [(0, .inr (.inr (some (0)))), (1, .inl (v1)), (2, .inl (v2))] [] M (some (.inl Rr.1), sd_rp Rr.2, 0, 0) := by
  intro n
  induction n with
  | zero => intro v1 v2 M Rr h; cases h
  | succ n ih =>
    intro v1 v2 M Rr h
    rw [f_X9_layCourses_4] at h
    refine sd_b_go 2 (pc2 := 6) (lv2 := [(0, .inr (.inr (some (0)))), (1, .inl (v1)), (2, .inl (v2))]) (st2 := [.inr (.inr (some (0))), .inl (v2)]) rfl ?_
    refine sd_b_gi (k := 4) sd_o_0 rfl rfl rfl ?_
    by_cases c1 : (M 0 4) ≤ v2
    · rw [if_pos c1] at h
      refine sd_b_ct (c := .ge) (tgt := 127) rfl (decide_eq_true c1) (by decide) ?_
      refine sd_b_go 1 (pc2 := 128) (lv2 := [(0, .inr (.inr (some (0)))), (1, .inl (v1)), (2, .inl (v2))]) (st2 := [.inl (v1)]) rfl ?_
      cases h
      exact sd_b_rt rfl rfl rfl
    · rw [if_neg c1] at h
      refine sd_b_cf (c := .ge) rfl (decide_eq_false c1) (by decide) ?_
      refine sd_b_go 2 (pc2 := 15) (lv2 := [(0, .inr (.inr (some (0)))), (1, .inl (v1)), (2, .inl (v2))]) (st2 := [.inl (6), .inl (v1)]) rfl ?_
      by_cases c2 : 6 < v1
      · rw [if_pos c2] at h
        refine sd_b_ct (c := .gt) (tgt := 127) rfl (decide_eq_true c2) (by decide) ?_
        refine sd_b_go 1 (pc2 := 128) (lv2 := [(0, .inr (.inr (some (0)))), (1, .inl (v1)), (2, .inl (v2))]) (st2 := [.inl (v1)]) rfl ?_
        cases h
        exact sd_b_rt rfl rfl rfl
      · rw [if_neg c2] at h
        refine sd_b_cf (c := .gt) rfl (decide_eq_false c2) (by decide) ?_
        refine sd_b_go 2 (pc2 := 20) (lv2 := [(0, .inr (.inr (some (0)))), (1, .inl (v1)), (2, .inl (v2))]) (st2 := [.inl (v2), .inr (.inr (some (0)))]) rfl ?_
        obtain ⟨r3, e3, h⟩ := sd_bnd h
        refine sd_b_call [.inr (.inr (some (0))), .inl (v2)] [] rfl rfl sd_i_X9_ruleAt rfl rfl (Nat.le_of_ble_eq_true rfl) (sd_rc_v sd_o_0) (m_X9_ruleAt (by omega) e3) ?_
        refine sd_b_go 4 (pc2 := 28) (lv2 := [(4, .inl (1)), (3, .inr (.inr (r3.1))), (0, .inr (.inr (some (0)))), (1, .inl (v1)), (2, .inl (v2))]) (st2 := [.inr (.inr (some (0)))]) rfl ?_
        refine sd_b_gr (k := 12) sd_o_0 rfl rfl rfl ?_
        refine sd_b_go 1 (pc2 := 32) (lv2 := [(4, .inl (1)), (3, .inr (.inr (r3.1))), (0, .inr (.inr (some (0)))), (1, .inl (v1)), (2, .inl (v2))]) (st2 := [.inr (.inr (some (0))), .inr (.inr (some (318)))]) rfl ?_
        refine sd_b_gr (k := 5) sd_o_0 rfl rfl rfl ?_
        refine sd_b_gr (k := 0) sd_o_58 rfl rfl rfl ?_
        obtain ⟨r4, e4, h⟩ := sd_bnd h
        refine sd_b_call [.inr (.inr (some (318))), .inr (.inr (some (59)))] [] rfl rfl sd_i_X0_begin rfl rfl (Nat.le_of_ble_eq_true rfl) (sd_rc_v sd_o_318) (m_X0_begin (by omega) sd_o_318 e4) ?_
        refine sd_b_go 2 (pc2 := 44) (lv2 := [(5, .inl (0)), (4, .inl (1)), (3, .inr (.inr (r3.1))), (0, .inr (.inr (some (0)))), (1, .inl (v1)), (2, .inl (v2))]) (st2 := []) rfl ?_
        refine sd_b_wk [(0, .inr (.inr (some (0)))), (1, .inl (v1)), (2, .inl (v2)), (3, .inr (.inr (r3.1))), (4, .inl (1)), (5, .inl (0))] (List.forall_mem_cons.mpr ⟨rfl, (List.forall_mem_cons.mpr ⟨rfl, (List.forall_mem_cons.mpr ⟨rfl, (List.forall_mem_cons.mpr ⟨rfl, (List.forall_mem_cons.mpr ⟨rfl, (List.forall_mem_cons.mpr ⟨rfl, (fun _ h0 => absurd h0 List.not_mem_nil)⟩)⟩)⟩)⟩)⟩)⟩) ?_
        exact t_X9_layCourses_44 hd (f_X9_layCourses_113 (f_X9_layCourses_4 n)) (t_X9_layCourses_113 hd (f_X9_layCourses_4 n) ih) 4000 v1 v2 r3.1 1 0 r4.2 _ (n_X9_ruleAt e3) h
def f_X9_layCourses (M : sd_M) : Option (Int × sd_M) := f_X9_layCourses_4 4000 0 ((-1)) M
set_option maxRecDepth 4000 in
theorem t_X9_layCourses {X : Nat → List sd_V → List sd_E → sd_A → Prop} {d : Nat} (hd : 6 ≤ d) (M : sd_M) (Rr : Int × sd_M) (h : f_X9_layCourses M = some Rr) : sd_B X d sd_q_X9_layCourses 0 [(0, .inr (.inr (some (0))))] [] M (some (.inl Rr.1), sd_rp Rr.2, 0, 0) := by
  unfold f_X9_layCourses at h
  refine sd_b_go 4 (pc2 := 4) (lv2 := [(2, .inl ((-1))), (1, .inl (0)), (0, .inr (.inr (some (0))))]) (st2 := []) rfl ?_
  refine sd_b_wk [(0, .inr (.inr (some (0)))), (1, .inl (0)), (2, .inl ((-1)))] (List.forall_mem_cons.mpr ⟨rfl, (List.forall_mem_cons.mpr ⟨rfl, (List.forall_mem_cons.mpr ⟨rfl, (fun _ h0 => absurd h0 List.not_mem_nil)⟩)⟩)⟩) ?_
  exact t_X9_layCourses_4 hd 4000 0 ((-1)) M _ h
theorem m_X9_layCourses {X : Nat → List sd_V → List sd_E → sd_A → Prop} {d : Nat} (hd : 7 ≤ d) {M : sd_M} {Rr : Int × sd_M} (h : f_X9_layCourses M = some Rr) : sd_Cal X d 114 [.inr (.inr (some (0)))] (sd_rp M) (some (.inl Rr.1), sd_rp Rr.2, 0, 0) := by
  obtain ⟨d, rfl⟩ : ∃ d2, d = d2 + 1 := ⟨d - 1, by omega⟩
  exact sd_cal_of sd_i_X9_layCourses (Nat.le_of_ble_eq_true rfl) (t_X9_layCourses (by omega) M Rr h)
-- X9_goesAsNoted
def sd_q_X9_goesAsNoted : sd_MI := (yX9_goesAsNoted, cX9_goesAsNoted, 4, (some .boolean), 9, 1, sd_t_X9_goesAsNoted)
set_option maxRecDepth 4000 in
theorem sd_i_X9_goesAsNoted : sd_mL[116]? = some sd_q_X9_goesAsNoted := rfl
def f_X9_goesAsNoted_13 (rl : Option Nat) : Nat → Int → Int → sd_M → Option (Int × sd_M)
  | 0, _, _, _ => none
  | n + 1, v2, v3, M => if v2 < v3 then (some (1, M)) else (if 31 ≤ v3 then (some (1, M)) else ((f_X1_pass 318 rl M).bind fun r3 => (f_X3_allow 74 v3 r3.1 r3.2).bind fun r4 => if r4.1 = 0 then (some (0, r4.2)) else (f_X9_goesAsNoted_13 rl n v2 (sd_w (v3 + 1)) r4.2)))
set_option maxRecDepth 4000 in
theorem t_X9_goesAsNoted_13 {X : Nat → List sd_V → List sd_E → sd_A → Prop} {d : Nat} (hd : 6 ≤ d) (rl : Option Nat) (h_rl : ∀ a, rl = some a → sd_o a 4) : ∀ (n : Nat) (v2 : Int) (v3 : Int) (M : sd_M) (Rr : Int × sd_M), f_X9_goesAsNoted_13 rl n v2 v3 M = some Rr → sd_B X d sd_q_X9_goesAsNoted 13 [(0, .inr (.inr (some (0)))), (1, .inr (.inr rl)), (2, .inl (v2)), (3, .inl (v3))] [] M (some (.inl Rr.1), sd_rp Rr.2, 0, 0) := by
  intro n
  induction n with
  | zero => intro v2 v3 M Rr h; cases h
  | succ n ih =>
    intro v2 v3 M Rr h
    rw [f_X9_goesAsNoted_13] at h
    refine sd_b_go 2 (pc2 := 15) (lv2 := [(0, .inr (.inr (some (0)))), (1, .inr (.inr rl)), (2, .inl (v2)), (3, .inl (v3))]) (st2 := [.inl (v2), .inl (v3)]) rfl ?_
    by_cases c1 : v2 < v3
    · rw [if_pos c1] at h
      refine sd_b_ct (c := .gt) (tgt := 65) rfl (decide_eq_true c1) (by decide) ?_
      refine sd_b_go 1 (pc2 := 66) (lv2 := [(0, .inr (.inr (some (0)))), (1, .inr (.inr rl)), (2, .inl (v2)), (3, .inl (v3))]) (st2 := [.inl (1)]) rfl ?_
      cases h
      exact sd_b_rt rfl rfl rfl
    · rw [if_neg c1] at h
      refine sd_b_cf (c := .gt) rfl (decide_eq_false c1) (by decide) ?_
      refine sd_b_go 2 (pc2 := 21) (lv2 := [(0, .inr (.inr (some (0)))), (1, .inr (.inr rl)), (2, .inl (v2)), (3, .inl (v3))]) (st2 := [.inl (31), .inl (v3)]) rfl ?_
      by_cases c2 : 31 ≤ v3
      · rw [if_pos c2] at h
        refine sd_b_ct (c := .ge) (tgt := 65) rfl (decide_eq_true c2) (by decide) ?_
        refine sd_b_go 1 (pc2 := 66) (lv2 := [(0, .inr (.inr (some (0)))), (1, .inr (.inr rl)), (2, .inl (v2)), (3, .inl (v3))]) (st2 := [.inl (1)]) rfl ?_
        cases h
        exact sd_b_rt rfl rfl rfl
      · rw [if_neg c2] at h
        refine sd_b_cf (c := .ge) rfl (decide_eq_false c2) (by decide) ?_
        refine sd_b_go 1 (pc2 := 25) (lv2 := [(0, .inr (.inr (some (0)))), (1, .inr (.inr rl)), (2, .inl (v2)), (3, .inl (v3))]) (st2 := [.inr (.inr (some (0)))]) rfl ?_
        refine sd_b_gr (k := 5) sd_o_0 rfl rfl rfl ?_
        refine sd_b_gr (k := 2) sd_o_58 rfl rfl rfl ?_
        refine sd_b_go 2 (pc2 := 33) (lv2 := [(0, .inr (.inr (some (0)))), (1, .inr (.inr rl)), (2, .inl (v2)), (3, .inl (v3))]) (st2 := [.inr (.inr (some (0))), .inl (v3), .inr (.inr (some (74)))]) rfl ?_
        refine sd_b_gr (k := 11) sd_o_0 rfl rfl rfl ?_
        refine sd_b_go 1 (pc2 := 37) (lv2 := [(0, .inr (.inr (some (0)))), (1, .inr (.inr rl)), (2, .inl (v2)), (3, .inl (v3))]) (st2 := [.inr (.inr (some (0))), .inr (.inr (some (316))), .inl (v3), .inr (.inr (some (74)))]) rfl ?_
        refine sd_b_gr (k := 12) sd_o_0 rfl rfl rfl ?_
        refine sd_b_go 1 (pc2 := 41) (lv2 := [(0, .inr (.inr (some (0)))), (1, .inr (.inr rl)), (2, .inl (v2)), (3, .inl (v3))]) (st2 := [.inr (.inr (some (0))), .inr (.inr (some (318))), .inr (.inr (some (316))), .inl (v3), .inr (.inr (some (74)))]) rfl ?_
        refine sd_b_gr (k := 5) sd_o_0 rfl rfl rfl ?_
        refine sd_b_gr (k := 0) sd_o_58 rfl rfl rfl ?_
        refine sd_b_go 1 (pc2 := 48) (lv2 := [(0, .inr (.inr (some (0)))), (1, .inr (.inr rl)), (2, .inl (v2)), (3, .inl (v3))]) (st2 := [.inr (.inr rl), .inr (.inr (some (59))), .inr (.inr (some (318))), .inr (.inr (some (316))), .inl (v3), .inr (.inr (some (74)))]) rfl ?_
        obtain ⟨r3, e3, h⟩ := sd_bnd h
        refine sd_b_call [.inr (.inr (some (316))), .inr (.inr (some (318))), .inr (.inr (some (59))), .inr (.inr rl)] [.inl (v3), .inr (.inr (some (74)))] rfl rfl sd_i_X1_pass rfl rfl (Nat.le_of_ble_eq_true rfl) (sd_rc_v sd_o_316) (m_X1_pass (by omega) sd_o_318 h_rl e3) ?_
        obtain ⟨r4, e4, h⟩ := sd_bnd h
        refine sd_b_call [.inr (.inr (some (74))), .inl (v3), .inl (r3.1)] [] rfl rfl sd_i_X3_allow rfl rfl (Nat.le_of_ble_eq_true rfl) (sd_rc_v sd_o_74) (m_X3_allow (by omega) sd_o_74 e4) ?_
        by_cases c5 : r4.1 = 0
        · rw [if_pos c5] at h
          refine sd_b_zf (c := .ne) rfl (decide_eq_false (not_not_intro c5)) (by decide) ?_
          refine sd_b_go 1 (pc2 := 58) (lv2 := [(0, .inr (.inr (some (0)))), (1, .inr (.inr rl)), (2, .inl (v2)), (3, .inl (v3))]) (st2 := [.inl (0)]) rfl ?_
          cases h
          exact sd_b_rt rfl rfl rfl
        · rw [if_neg c5] at h
          refine sd_b_zt (c := .ne) (tgt := 59) rfl (decide_eq_true c5) (by decide) ?_
          refine sd_b_go 2 (pc2 := 13) (lv2 := [(3, .inl (sd_w (v3 + 1))), (0, .inr (.inr (some (0)))), (1, .inr (.inr rl)), (2, .inl (v2))]) (st2 := []) rfl ?_
          refine sd_b_wk [(0, .inr (.inr (some (0)))), (1, .inr (.inr rl)), (2, .inl (v2)), (3, .inl (sd_w (v3 + 1)))] (List.forall_mem_cons.mpr ⟨rfl, (List.forall_mem_cons.mpr ⟨rfl, (List.forall_mem_cons.mpr ⟨rfl, (List.forall_mem_cons.mpr ⟨rfl, (fun _ h0 => absurd h0 List.not_mem_nil)⟩)⟩)⟩)⟩) ?_
          exact ih v2 (sd_w (v3 + 1)) r4.2 _ h
def f_X9_goesAsNoted (rl : Option Nat) (M : sd_M) : Option (Int × sd_M) := (f_X3_lastDay 74 M).bind fun r1 => f_X9_goesAsNoted_13 rl 4000 r1.1 0 r1.2
set_option maxRecDepth 4000 in
theorem t_X9_goesAsNoted {X : Nat → List sd_V → List sd_E → sd_A → Prop} {d : Nat} (hd : 6 ≤ d) (rl : Option Nat) (h_rl : ∀ a, rl = some a → sd_o a 4) (M : sd_M) (Rr : Int × sd_M) (h : f_X9_goesAsNoted rl M = some Rr) : sd_B X d sd_q_X9_goesAsNoted 0 [(0, .inr (.inr (some (0)))), (1, .inr (.inr rl))] [] M (some (.inl Rr.1), sd_rp Rr.2, 0, 0) := by
  unfold f_X9_goesAsNoted at h
  refine sd_b_go 1 (pc2 := 1) (lv2 := [(0, .inr (.inr (some (0)))), (1, .inr (.inr rl))]) (st2 := [.inr (.inr (some (0)))]) rfl ?_
  refine sd_b_gr (k := 5) sd_o_0 rfl rfl rfl ?_
  refine sd_b_gr (k := 2) sd_o_58 rfl rfl rfl ?_
  obtain ⟨r1, e1, h⟩ := sd_bnd h
  refine sd_b_call [.inr (.inr (some (74)))] [] rfl rfl sd_i_X3_lastDay rfl rfl (Nat.le_of_ble_eq_true rfl) (sd_rc_v sd_o_74) (m_X3_lastDay (by omega) sd_o_74 e1) ?_
  refine sd_b_go 3 (pc2 := 13) (lv2 := [(3, .inl (0)), (2, .inl (r1.1)), (0, .inr (.inr (some (0)))), (1, .inr (.inr rl))]) (st2 := []) rfl ?_
  refine sd_b_wk [(0, .inr (.inr (some (0)))), (1, .inr (.inr rl)), (2, .inl (r1.1)), (3, .inl (0))] (List.forall_mem_cons.mpr ⟨rfl, (List.forall_mem_cons.mpr ⟨rfl, (List.forall_mem_cons.mpr ⟨rfl, (List.forall_mem_cons.mpr ⟨rfl, (fun _ h0 => absurd h0 List.not_mem_nil)⟩)⟩)⟩)⟩) ?_
  exact t_X9_goesAsNoted_13 hd rl h_rl 4000 r1.1 0 r1.2 _ h
theorem m_X9_goesAsNoted {X : Nat → List sd_V → List sd_E → sd_A → Prop} {d : Nat} (hd : 7 ≤ d) {rl : Option Nat} (h_rl : ∀ a, rl = some a → sd_o a 4) {M : sd_M} {Rr : Int × sd_M} (h : f_X9_goesAsNoted rl M = some Rr) : sd_Cal X d 116 [.inr (.inr (some (0))), .inr (.inr rl)] (sd_rp M) (some (.inl Rr.1), sd_rp Rr.2, 0, 0) := by
  obtain ⟨d, rfl⟩ : ∃ d2, d = d2 + 1 := ⟨d - 1, by omega⟩
  exact sd_cal_of sd_i_X9_goesAsNoted (Nat.le_of_ble_eq_true rfl) (t_X9_goesAsNoted (by omega) rl h_rl M Rr h)
-- X9_rests
def sd_q_X9_rests : sd_MI := (yX9_rests, cX9_rests, 7, (some .int), 9, 3, sd_t_X9_rests)
set_option maxRecDepth 4000 in
theorem sd_i_X9_rests : sd_mL[117]? = some sd_q_X9_rests := rfl
def f_X9_rests_88 (k48 : Int → Int → Int → Int → sd_M → Option (Int × sd_M)) (k94 : Int → Int → Int → sd_M → Option (Int × sd_M)) (v3 : Int) (v4 : Int) (v5 : Int) (v6 : Int) (M : sd_M) : Option (Int × sd_M) := k48 v3 v4 v5 (sd_w (v6 + 1)) M
set_option maxRecDepth 4000 in
theorem t_X9_rests_88 {X : Nat → List sd_V → List sd_E → sd_A → Prop} {d : Nat} (hd : 6 ≤ d) (k48 : Int → Int → Int → Int → sd_M → Option (Int × sd_M)) (k94 : Int → Int → Int → sd_M → Option (Int × sd_M)) (hk48 : ∀ (v3 : Int) (v4 : Int) (v5 : Int) (v6 : Int) (M : sd_M) (Rr : Int × sd_M), k48 v3 v4 v5 v6 M = some Rr → sd_B X d sd_q_X9_rests 48 [(0, .inr (.inr (some (0)))), (3, .inl (v3)), (4, .inl (v4)), (5, .inl (v5)), (6, .inl (v6))] [] M (some (.inl Rr.1), sd_rp Rr.2, 0, 0)) (hk94 : ∀ (v3 : Int) (v4 : Int) (v5 : Int) (M : sd_M) (Rr : Int × sd_M), k94 v3 v4 v5 M = some Rr → sd_B X d sd_q_X9_rests 94 [(3, .inl (v3)), (4, .inl (v4)), (5, .inl (v5))] [] M (some (.inl Rr.1), sd_rp Rr.2, 0, 0)) (v3 : Int) (v4 : Int) (v5 : Int) (v6 : Int) (M : sd_M) (Rr : Int × sd_M) (h : f_X9_rests_88 k48 k94 v3 v4 v5 v6 M = some Rr) : sd_B X d sd_q_X9_rests 88 [(0, .inr (.inr (some (0)))), (3, .inl (v3)), (4, .inl (v4)), (5, .inl (v5)), (6, .inl (v6))] [] M (some (.inl Rr.1), sd_rp Rr.2, 0, 0) := by
  unfold f_X9_rests_88 at h
  refine sd_b_go 2 (pc2 := 48) (lv2 := [(6, .inl (sd_w (v6 + 1))), (0, .inr (.inr (some (0)))), (3, .inl (v3)), (4, .inl (v4)), (5, .inl (v5))]) (st2 := []) rfl ?_
  refine sd_b_wk [(0, .inr (.inr (some (0)))), (3, .inl (v3)), (4, .inl (v4)), (5, .inl (v5)), (6, .inl (sd_w (v6 + 1)))] (List.forall_mem_cons.mpr ⟨rfl, (List.forall_mem_cons.mpr ⟨rfl, (List.forall_mem_cons.mpr ⟨rfl, (List.forall_mem_cons.mpr ⟨rfl, (List.forall_mem_cons.mpr ⟨rfl, (fun _ h0 => absurd h0 List.not_mem_nil)⟩)⟩)⟩)⟩)⟩) ?_
  exact hk48 v3 v4 v5 (sd_w (v6 + 1)) M _ h
def f_X9_rests_86 (k48 : Int → Int → Int → Int → sd_M → Option (Int × sd_M)) (k94 : Int → Int → Int → sd_M → Option (Int × sd_M)) (v3 : Int) (v4 : Int) (v6 : Int) (s0 : Int) (M : sd_M) : Option (Int × sd_M) := f_X9_rests_88 k48 k94 v3 v4 s0 v6 M
set_option maxRecDepth 4000 in
theorem t_X9_rests_86 {X : Nat → List sd_V → List sd_E → sd_A → Prop} {d : Nat} (hd : 6 ≤ d) (k48 : Int → Int → Int → Int → sd_M → Option (Int × sd_M)) (k94 : Int → Int → Int → sd_M → Option (Int × sd_M)) (hk48 : ∀ (v3 : Int) (v4 : Int) (v5 : Int) (v6 : Int) (M : sd_M) (Rr : Int × sd_M), k48 v3 v4 v5 v6 M = some Rr → sd_B X d sd_q_X9_rests 48 [(0, .inr (.inr (some (0)))), (3, .inl (v3)), (4, .inl (v4)), (5, .inl (v5)), (6, .inl (v6))] [] M (some (.inl Rr.1), sd_rp Rr.2, 0, 0)) (hk94 : ∀ (v3 : Int) (v4 : Int) (v5 : Int) (M : sd_M) (Rr : Int × sd_M), k94 v3 v4 v5 M = some Rr → sd_B X d sd_q_X9_rests 94 [(3, .inl (v3)), (4, .inl (v4)), (5, .inl (v5))] [] M (some (.inl Rr.1), sd_rp Rr.2, 0, 0)) (v3 : Int) (v4 : Int) (v6 : Int) (s0 : Int) (M : sd_M) (Rr : Int × sd_M) (h : f_X9_rests_86 k48 k94 v3 v4 v6 s0 M = some Rr) : sd_B X d sd_q_X9_rests 86 [(0, .inr (.inr (some (0)))), (3, .inl (v3)), (4, .inl (v4)), (6, .inl (v6))] [.inl (s0)] M (some (.inl Rr.1), sd_rp Rr.2, 0, 0) := by
  unfold f_X9_rests_86 at h
  refine sd_b_go 1 (pc2 := 88) (lv2 := [(5, .inl (s0)), (0, .inr (.inr (some (0)))), (3, .inl (v3)), (4, .inl (v4)), (6, .inl (v6))]) (st2 := []) rfl ?_
  refine sd_b_wk [(0, .inr (.inr (some (0)))), (3, .inl (v3)), (4, .inl (v4)), (5, .inl (s0)), (6, .inl (v6))] (List.forall_mem_cons.mpr ⟨rfl, (List.forall_mem_cons.mpr ⟨rfl, (List.forall_mem_cons.mpr ⟨rfl, (List.forall_mem_cons.mpr ⟨rfl, (List.forall_mem_cons.mpr ⟨rfl, (fun _ h0 => absurd h0 List.not_mem_nil)⟩)⟩)⟩)⟩)⟩) ?_
  exact t_X9_rests_88 hd k48 k94 hk48 hk94 v3 v4 s0 v6 M _ h
def f_X9_rests_48 (k94 : Int → Int → Int → sd_M → Option (Int × sd_M)) : Nat → Int → Int → Int → Int → sd_M → Option (Int × sd_M)
  | 0, _, _, _, _, _ => none
  | n + 1, v3, v4, v5, v6, M => if 9 ≤ v6 then (k94 v3 v4 v5 M) else ((f_X9_isRest (sd_w (Int.tdiv v6 3)) (Int.tmod v6 3) M).bind fun r2 => if r2.1 = 0 then (f_X9_rests_88 (f_X9_rests_48 k94 n) k94 v3 v4 v5 v6 r2.2) else (if (sd_w (v4 + 1)) = 1 then (f_X9_rests_86 (f_X9_rests_48 k94 n) k94 v3 (sd_w (v4 + 1)) v6 v6 r2.2) else (f_X9_rests_86 (f_X9_rests_48 k94 n) k94 v3 (sd_w (v4 + 1)) v6 v5 r2.2)))
set_option maxRecDepth 4000 in
theorem t_X9_rests_48 {X : Nat → List sd_V → List sd_E → sd_A → Prop} {d : Nat} (hd : 6 ≤ d) (k94 : Int → Int → Int → sd_M → Option (Int × sd_M)) (hk94 : ∀ (v3 : Int) (v4 : Int) (v5 : Int) (M : sd_M) (Rr : Int × sd_M), k94 v3 v4 v5 M = some Rr → sd_B X d sd_q_X9_rests 94 [(3, .inl (v3)), (4, .inl (v4)), (5, .inl (v5))] [] M (some (.inl Rr.1), sd_rp Rr.2, 0, 0)) : ∀ (n : Nat) (v3 : Int) (v4 : Int) (v5 : Int) (v6 : Int) (M : sd_M) (Rr : Int × sd_M), f_X9_rests_48 k94 n v3 v4 v5 v6 M = some Rr → sd_B X d sd_q_X9_rests 48 [(0, .inr (.inr (some (0)))), (3, .inl (v3)), (4, .inl (v4)), (5, .inl (v5)), (6, .inl (v6))] [] M (some (.inl Rr.1), sd_rp Rr.2, 0, 0) := by
  intro n
  induction n with
  | zero => intro v3 v4 v5 v6 M Rr h; cases h
  | succ n ih =>
    intro v3 v4 v5 v6 M Rr h
    rw [f_X9_rests_48] at h
    refine sd_b_go 2 (pc2 := 52) (lv2 := [(0, .inr (.inr (some (0)))), (3, .inl (v3)), (4, .inl (v4)), (5, .inl (v5)), (6, .inl (v6))]) (st2 := [.inl (9), .inl (v6)]) rfl ?_
    by_cases c1 : 9 ≤ v6
    · rw [if_pos c1] at h
      refine sd_b_ct (c := .ge) (tgt := 94) rfl (decide_eq_true c1) (by decide) ?_
      refine sd_b_wk [(3, .inl (v3)), (4, .inl (v4)), (5, .inl (v5))] (List.forall_mem_cons.mpr ⟨rfl, (List.forall_mem_cons.mpr ⟨rfl, (List.forall_mem_cons.mpr ⟨rfl, (fun _ h0 => absurd h0 List.not_mem_nil)⟩)⟩)⟩) ?_
      exact hk94 v3 v4 v5 M _ h
    · rw [if_neg c1] at h
      refine sd_b_cf (c := .ge) rfl (decide_eq_false c1) (by decide) ?_
      refine sd_b_go 3 (pc2 := 59) (lv2 := [(0, .inr (.inr (some (0)))), (3, .inl (v3)), (4, .inl (v4)), (5, .inl (v5)), (6, .inl (v6))]) (st2 := [.inl (3), .inl (v6), .inr (.inr (some (0)))]) rfl ?_
      refine sd_b_dz (by decide) rfl rfl ?_
      refine sd_b_go 2 (pc2 := 63) (lv2 := [(0, .inr (.inr (some (0)))), (3, .inl (v3)), (4, .inl (v4)), (5, .inl (v5)), (6, .inl (v6))]) (st2 := [.inl (3), .inl (v6), .inl (sd_w (Int.tdiv v6 3)), .inr (.inr (some (0)))]) rfl ?_
      refine sd_b_mz (by decide) rfl ?_
      obtain ⟨r2, e2, h⟩ := sd_bnd h
      refine sd_b_call [.inr (.inr (some (0))), .inl (sd_w (Int.tdiv v6 3)), .inl (Int.tmod v6 3)] [] rfl rfl sd_i_X9_isRest rfl rfl (Nat.le_of_ble_eq_true rfl) (sd_rc_v sd_o_0) (m_X9_isRest (by omega) e2) ?_
      by_cases c3 : r2.1 = 0
      · rw [if_pos c3] at h
        refine sd_b_zt (c := .eq) (tgt := 88) rfl (decide_eq_true c3) (by decide) ?_
        refine sd_b_wk [(0, .inr (.inr (some (0)))), (3, .inl (v3)), (4, .inl (v4)), (5, .inl (v5)), (6, .inl (v6))] (List.forall_mem_cons.mpr ⟨rfl, (List.forall_mem_cons.mpr ⟨rfl, (List.forall_mem_cons.mpr ⟨rfl, (List.forall_mem_cons.mpr ⟨rfl, (List.forall_mem_cons.mpr ⟨rfl, (fun _ h0 => absurd h0 List.not_mem_nil)⟩)⟩)⟩)⟩)⟩) ?_
        exact t_X9_rests_88 hd (f_X9_rests_48 k94 n) k94 ih hk94 v3 v4 v5 v6 r2.2 _ h
      · rw [if_neg c3] at h
        refine sd_b_zf (c := .eq) rfl (decide_eq_false c3) (by decide) ?_
        refine sd_b_go 3 (pc2 := 76) (lv2 := [(4, .inl (sd_w (v4 + 1))), (0, .inr (.inr (some (0)))), (3, .inl (v3)), (5, .inl (v5)), (6, .inl (v6))]) (st2 := [.inl (1), .inl (sd_w (v4 + 1))]) rfl ?_
        by_cases c4 : (sd_w (v4 + 1)) = 1
        · rw [if_pos c4] at h
          refine sd_b_cf (c := .ne) rfl (decide_eq_false (not_not_intro c4)) (by decide) ?_
          refine sd_b_go 2 (pc2 := 86) (lv2 := [(4, .inl (sd_w (v4 + 1))), (0, .inr (.inr (some (0)))), (3, .inl (v3)), (5, .inl (v5)), (6, .inl (v6))]) (st2 := [.inl (v6)]) rfl ?_
          refine sd_b_wk [(0, .inr (.inr (some (0)))), (3, .inl (v3)), (4, .inl (sd_w (v4 + 1))), (6, .inl (v6))] (List.forall_mem_cons.mpr ⟨rfl, (List.forall_mem_cons.mpr ⟨rfl, (List.forall_mem_cons.mpr ⟨rfl, (List.forall_mem_cons.mpr ⟨rfl, (fun _ h0 => absurd h0 List.not_mem_nil)⟩)⟩)⟩)⟩) ?_
          exact t_X9_rests_86 hd (f_X9_rests_48 k94 n) k94 ih hk94 v3 (sd_w (v4 + 1)) v6 v6 r2.2 _ h
        · rw [if_neg c4] at h
          refine sd_b_ct (c := .ne) (tgt := 84) rfl (decide_eq_true c4) (by decide) ?_
          refine sd_b_go 1 (pc2 := 86) (lv2 := [(4, .inl (sd_w (v4 + 1))), (0, .inr (.inr (some (0)))), (3, .inl (v3)), (5, .inl (v5)), (6, .inl (v6))]) (st2 := [.inl (v5)]) rfl ?_
          refine sd_b_wk [(0, .inr (.inr (some (0)))), (3, .inl (v3)), (4, .inl (sd_w (v4 + 1))), (6, .inl (v6))] (List.forall_mem_cons.mpr ⟨rfl, (List.forall_mem_cons.mpr ⟨rfl, (List.forall_mem_cons.mpr ⟨rfl, (List.forall_mem_cons.mpr ⟨rfl, (fun _ h0 => absurd h0 List.not_mem_nil)⟩)⟩)⟩)⟩) ?_
          exact t_X9_rests_86 hd (f_X9_rests_48 k94 n) k94 ih hk94 v3 (sd_w (v4 + 1)) v6 v5 r2.2 _ h
def f_X9_rests_94 (v3 : Int) (v4 : Int) (v5 : Int) (M : sd_M) : Option (Int × sd_M) := if v3 = 0 then (some (v4, M)) else (if v5 = ((-2)) then (some ((-2), M)) else (if v3 = 1 then (some (sd_w (Int.tdiv v5 3), M)) else (some (Int.tmod v5 3, M))))
set_option maxRecDepth 4000 in
theorem t_X9_rests_94 {X : Nat → List sd_V → List sd_E → sd_A → Prop} {d : Nat} (hd : 6 ≤ d) (v3 : Int) (v4 : Int) (v5 : Int) (M : sd_M) (Rr : Int × sd_M) (h : f_X9_rests_94 v3 v4 v5 M = some Rr) : sd_B X d sd_q_X9_rests 94 [(3, .inl (v3)), (4, .inl (v4)), (5, .inl (v5))] [] M (some (.inl Rr.1), sd_rp Rr.2, 0, 0) := by
  unfold f_X9_rests_94 at h
  refine sd_b_go 1 (pc2 := 95) (lv2 := [(3, .inl (v3)), (4, .inl (v4)), (5, .inl (v5))]) (st2 := [.inl (v3)]) rfl ?_
  by_cases c1 : v3 = 0
  · rw [if_pos c1] at h
    refine sd_b_zf (c := .ne) rfl (decide_eq_false (not_not_intro c1)) (by decide) ?_
    refine sd_b_go 1 (pc2 := 100) (lv2 := [(3, .inl (v3)), (4, .inl (v4)), (5, .inl (v5))]) (st2 := [.inl (v4)]) rfl ?_
    cases h
    exact sd_b_rt rfl rfl rfl
  · rw [if_neg c1] at h
    refine sd_b_zt (c := .ne) (tgt := 101) rfl (decide_eq_true c1) (by decide) ?_
    refine sd_b_go 2 (pc2 := 105) (lv2 := [(3, .inl (v3)), (4, .inl (v4)), (5, .inl (v5))]) (st2 := [.inl ((-2)), .inl (v5)]) rfl ?_
    by_cases c2 : v5 = ((-2))
    · rw [if_pos c2] at h
      refine sd_b_cf (c := .ne) rfl (decide_eq_false (not_not_intro c2)) (by decide) ?_
      refine sd_b_go 1 (pc2 := 110) (lv2 := [(3, .inl (v3)), (4, .inl (v4)), (5, .inl (v5))]) (st2 := [.inl ((-2))]) rfl ?_
      cases h
      exact sd_b_rt rfl rfl rfl
    · rw [if_neg c2] at h
      refine sd_b_ct (c := .ne) (tgt := 111) rfl (decide_eq_true c2) (by decide) ?_
      refine sd_b_go 2 (pc2 := 113) (lv2 := [(3, .inl (v3)), (4, .inl (v4)), (5, .inl (v5))]) (st2 := [.inl (1), .inl (v3)]) rfl ?_
      by_cases c3 : v3 = 1
      · rw [if_pos c3] at h
        refine sd_b_cf (c := .ne) rfl (decide_eq_false (not_not_intro c3)) (by decide) ?_
        refine sd_b_go 2 (pc2 := 119) (lv2 := [(3, .inl (v3)), (4, .inl (v4)), (5, .inl (v5))]) (st2 := [.inl (3), .inl (v5)]) rfl ?_
        refine sd_b_dz (by decide) rfl rfl ?_
        refine sd_b_go 1 (pc2 := 127) (lv2 := [(3, .inl (v3)), (4, .inl (v4)), (5, .inl (v5))]) (st2 := [.inl (sd_w (Int.tdiv v5 3))]) rfl ?_
        cases h
        exact sd_b_rt rfl rfl rfl
      · rw [if_neg c3] at h
        refine sd_b_ct (c := .ne) (tgt := 123) rfl (decide_eq_true c3) (by decide) ?_
        refine sd_b_go 2 (pc2 := 126) (lv2 := [(3, .inl (v3)), (4, .inl (v4)), (5, .inl (v5))]) (st2 := [.inl (3), .inl (v5)]) rfl ?_
        refine sd_b_mz (by decide) rfl ?_
        cases h
        exact sd_b_rt rfl rfl rfl
def f_X9_rests (p1 : Int) (p2 : Int) (p3 : Int) (M : sd_M) : Option (Int × sd_M) := (f_X9_isLine p1 M).bind fun r1 => if r1.1 = 0 then (some ((-1), r1.2)) else ((f_X9_isLine p2 r1.2).bind fun r3 => if r3.1 = 0 then (some ((-1), r3.2)) else (if p1 = p2 then (some ((-1), r3.2)) else (if p3 < 0 then (some ((-1), r3.2)) else (if p3 ≤ 2 then ((f_X9_layGains p1 p2 r3.2).bind fun r8 => f_X9_rests_48 (f_X9_rests_94) 4000 p3 0 ((-2)) 0 r8.2) else (some ((-1), r3.2))))))
set_option maxRecDepth 4000 in
theorem t_X9_rests {X : Nat → List sd_V → List sd_E → sd_A → Prop} {d : Nat} (hd : 6 ≤ d) (p1 : Int) (p2 : Int) (p3 : Int) (M : sd_M) (Rr : Int × sd_M) (h : f_X9_rests p1 p2 p3 M = some Rr) : sd_B X d sd_q_X9_rests 0 [(0, .inr (.inr (some (0)))), (1, .inl (p1)), (2, .inl (p2)), (3, .inl (p3))] [] M (some (.inl Rr.1), sd_rp Rr.2, 0, 0) := by
  unfold f_X9_rests at h
  refine sd_b_go 2 (pc2 := 2) (lv2 := [(0, .inr (.inr (some (0)))), (1, .inl (p1)), (2, .inl (p2)), (3, .inl (p3))]) (st2 := [.inl (p1), .inr (.inr (some (0)))]) rfl ?_
  obtain ⟨r1, e1, h⟩ := sd_bnd h
  refine sd_b_call [.inr (.inr (some (0))), .inl (p1)] [] rfl rfl sd_i_X9_isLine rfl rfl (Nat.le_of_ble_eq_true rfl) (sd_rc_v sd_o_0) (m_X9_isLine (by omega) e1) ?_
  by_cases c2 : r1.1 = 0
  · rw [if_pos c2] at h
    refine sd_b_zt (c := .eq) (tgt := 30) rfl (decide_eq_true c2) (by decide) ?_
    refine sd_b_go 1 (pc2 := 31) (lv2 := [(0, .inr (.inr (some (0)))), (1, .inl (p1)), (2, .inl (p2)), (3, .inl (p3))]) (st2 := [.inl ((-1))]) rfl ?_
    cases h
    exact sd_b_rt rfl rfl rfl
  · rw [if_neg c2] at h
    refine sd_b_zf (c := .eq) rfl (decide_eq_false c2) (by decide) ?_
    refine sd_b_go 2 (pc2 := 10) (lv2 := [(0, .inr (.inr (some (0)))), (1, .inl (p1)), (2, .inl (p2)), (3, .inl (p3))]) (st2 := [.inl (p2), .inr (.inr (some (0)))]) rfl ?_
    obtain ⟨r3, e3, h⟩ := sd_bnd h
    refine sd_b_call [.inr (.inr (some (0))), .inl (p2)] [] rfl rfl sd_i_X9_isLine rfl rfl (Nat.le_of_ble_eq_true rfl) (sd_rc_v sd_o_0) (m_X9_isLine (by omega) e3) ?_
    by_cases c4 : r3.1 = 0
    · rw [if_pos c4] at h
      refine sd_b_zt (c := .eq) (tgt := 30) rfl (decide_eq_true c4) (by decide) ?_
      refine sd_b_go 1 (pc2 := 31) (lv2 := [(0, .inr (.inr (some (0)))), (1, .inl (p1)), (2, .inl (p2)), (3, .inl (p3))]) (st2 := [.inl ((-1))]) rfl ?_
      cases h
      exact sd_b_rt rfl rfl rfl
    · rw [if_neg c4] at h
      refine sd_b_zf (c := .eq) rfl (decide_eq_false c4) (by decide) ?_
      refine sd_b_go 2 (pc2 := 18) (lv2 := [(0, .inr (.inr (some (0)))), (1, .inl (p1)), (2, .inl (p2)), (3, .inl (p3))]) (st2 := [.inl (p2), .inl (p1)]) rfl ?_
      by_cases c5 : p1 = p2
      · rw [if_pos c5] at h
        refine sd_b_ct (c := .eq) (tgt := 30) rfl (decide_eq_true c5) (by decide) ?_
        refine sd_b_go 1 (pc2 := 31) (lv2 := [(0, .inr (.inr (some (0)))), (1, .inl (p1)), (2, .inl (p2)), (3, .inl (p3))]) (st2 := [.inl ((-1))]) rfl ?_
        cases h
        exact sd_b_rt rfl rfl rfl
      · rw [if_neg c5] at h
        refine sd_b_cf (c := .eq) rfl (decide_eq_false c5) (by decide) ?_
        refine sd_b_go 1 (pc2 := 22) (lv2 := [(0, .inr (.inr (some (0)))), (1, .inl (p1)), (2, .inl (p2)), (3, .inl (p3))]) (st2 := [.inl (p3)]) rfl ?_
        by_cases c6 : p3 < 0
        · rw [if_pos c6] at h
          refine sd_b_zt (c := .lt) (tgt := 30) rfl (decide_eq_true c6) (by decide) ?_
          refine sd_b_go 1 (pc2 := 31) (lv2 := [(0, .inr (.inr (some (0)))), (1, .inl (p1)), (2, .inl (p2)), (3, .inl (p3))]) (st2 := [.inl ((-1))]) rfl ?_
          cases h
          exact sd_b_rt rfl rfl rfl
        · rw [if_neg c6] at h
          refine sd_b_zf (c := .lt) rfl (decide_eq_false c6) (by decide) ?_
          refine sd_b_go 2 (pc2 := 27) (lv2 := [(0, .inr (.inr (some (0)))), (1, .inl (p1)), (2, .inl (p2)), (3, .inl (p3))]) (st2 := [.inl (2), .inl (p3)]) rfl ?_
          by_cases c7 : p3 ≤ 2
          · rw [if_pos c7] at h
            refine sd_b_ct (c := .le) (tgt := 32) rfl (decide_eq_true c7) (by decide) ?_
            refine sd_b_go 3 (pc2 := 35) (lv2 := [(0, .inr (.inr (some (0)))), (1, .inl (p1)), (2, .inl (p2)), (3, .inl (p3))]) (st2 := [.inl (p2), .inl (p1), .inr (.inr (some (0)))]) rfl ?_
            obtain ⟨r8, e8, h⟩ := sd_bnd h
            refine sd_b_call [.inr (.inr (some (0))), .inl (p1), .inl (p2)] [] rfl rfl sd_i_X9_layGains rfl rfl (Nat.le_of_ble_eq_true rfl) (sd_rc_v sd_o_0) (m_X9_layGains (by omega) e8) ?_
            refine sd_b_go 6 (pc2 := 48) (lv2 := [(6, .inl (0)), (5, .inl ((-2))), (4, .inl (0)), (0, .inr (.inr (some (0)))), (1, .inl (p1)), (2, .inl (p2)), (3, .inl (p3))]) (st2 := []) rfl ?_
            refine sd_b_wk [(0, .inr (.inr (some (0)))), (3, .inl (p3)), (4, .inl (0)), (5, .inl ((-2))), (6, .inl (0))] (List.forall_mem_cons.mpr ⟨rfl, (List.forall_mem_cons.mpr ⟨rfl, (List.forall_mem_cons.mpr ⟨rfl, (List.forall_mem_cons.mpr ⟨rfl, (List.forall_mem_cons.mpr ⟨rfl, (fun _ h0 => absurd h0 List.not_mem_nil)⟩)⟩)⟩)⟩)⟩) ?_
            exact t_X9_rests_48 hd (f_X9_rests_94) (t_X9_rests_94 hd) 4000 p3 0 ((-2)) 0 r8.2 _ h
          · rw [if_neg c7] at h
            refine sd_b_cf (c := .le) rfl (decide_eq_false c7) (by decide) ?_
            refine sd_b_go 1 (pc2 := 31) (lv2 := [(0, .inr (.inr (some (0)))), (1, .inl (p1)), (2, .inl (p2)), (3, .inl (p3))]) (st2 := [.inl ((-1))]) rfl ?_
            cases h
            exact sd_b_rt rfl rfl rfl
theorem m_X9_rests {X : Nat → List sd_V → List sd_E → sd_A → Prop} {d : Nat} (hd : 7 ≤ d) {p1 : Int} {p2 : Int} {p3 : Int} {M : sd_M} {Rr : Int × sd_M} (h : f_X9_rests p1 p2 p3 M = some Rr) : sd_Cal X d 117 [.inr (.inr (some (0))), .inl (p1), .inl (p2), .inl (p3)] (sd_rp M) (some (.inl Rr.1), sd_rp Rr.2, 0, 0) := by
  obtain ⟨d, rfl⟩ : ∃ d2, d = d2 + 1 := ⟨d - 1, by omega⟩
  exact sd_cal_of sd_i_X9_rests (Nat.le_of_ble_eq_true rfl) (t_X9_rests (by omega) p1 p2 p3 M Rr h)
-- X9_worst
def sd_q_X9_worst : sd_MI := (yX9_worst, cX9_worst, 6, (some .int), 9, 1, sd_t_X9_worst)
set_option maxRecDepth 4000 in
theorem sd_i_X9_worst : sd_mL[93]? = some sd_q_X9_worst := rfl
def f_X9_worst_91 (k33 : Int → Int → Int → Int → sd_M → Option (Int × sd_M)) (k97 : Int → Int → Int → sd_M → Option (Int × sd_M)) (v1 : Int) (v2 : Int) (v3 : Int) (v4 : Int) (M : sd_M) : Option (Int × sd_M) := k33 v1 v2 v3 (sd_w (v4 + 1)) M
set_option maxRecDepth 4000 in
theorem t_X9_worst_91 {X : Nat → List sd_V → List sd_E → sd_A → Prop} {d : Nat} (hd : 7 ≤ d) (k33 : Int → Int → Int → Int → sd_M → Option (Int × sd_M)) (k97 : Int → Int → Int → sd_M → Option (Int × sd_M)) (hk33 : ∀ (v1 : Int) (v2 : Int) (v3 : Int) (v4 : Int) (M : sd_M) (Rr : Int × sd_M), k33 v1 v2 v3 v4 M = some Rr → sd_B X d sd_q_X9_worst 33 [(0, .inr (.inr (some (0)))), (1, .inl (v1)), (2, .inl (v2)), (3, .inl (v3)), (4, .inl (v4))] [] M (some (.inl Rr.1), sd_rp Rr.2, 0, 0)) (hk97 : ∀ (v1 : Int) (v2 : Int) (v3 : Int) (M : sd_M) (Rr : Int × sd_M), k97 v1 v2 v3 M = some Rr → sd_B X d sd_q_X9_worst 97 [(1, .inl (v1)), (2, .inl (v2)), (3, .inl (v3))] [] M (some (.inl Rr.1), sd_rp Rr.2, 0, 0)) (v1 : Int) (v2 : Int) (v3 : Int) (v4 : Int) (M : sd_M) (Rr : Int × sd_M) (h : f_X9_worst_91 k33 k97 v1 v2 v3 v4 M = some Rr) : sd_B X d sd_q_X9_worst 91 [(0, .inr (.inr (some (0)))), (1, .inl (v1)), (2, .inl (v2)), (3, .inl (v3)), (4, .inl (v4))] [] M (some (.inl Rr.1), sd_rp Rr.2, 0, 0) := by
  unfold f_X9_worst_91 at h
  refine sd_b_go 2 (pc2 := 33) (lv2 := [(4, .inl (sd_w (v4 + 1))), (0, .inr (.inr (some (0)))), (1, .inl (v1)), (2, .inl (v2)), (3, .inl (v3))]) (st2 := []) rfl ?_
  refine sd_b_wk [(0, .inr (.inr (some (0)))), (1, .inl (v1)), (2, .inl (v2)), (3, .inl (v3)), (4, .inl (sd_w (v4 + 1)))] (List.forall_mem_cons.mpr ⟨rfl, (List.forall_mem_cons.mpr ⟨rfl, (List.forall_mem_cons.mpr ⟨rfl, (List.forall_mem_cons.mpr ⟨rfl, (List.forall_mem_cons.mpr ⟨rfl, (fun _ h0 => absurd h0 List.not_mem_nil)⟩)⟩)⟩)⟩)⟩) ?_
  exact hk33 v1 v2 v3 (sd_w (v4 + 1)) M _ h
def f_X9_worst_33 (k97 : Int → Int → Int → sd_M → Option (Int × sd_M)) : Nat → Int → Int → Int → Int → sd_M → Option (Int × sd_M)
  | 0, _, _, _, _, _ => none
  | n + 1, v1, v2, v3, v4, M => if (M 66 3) ≤ v4 then (k97 v1 v2 v3 M) else (if 0 ≤ v4 ∧ v4 < 9 then ((f_X9_tryStriking (M 72 v4.toNat) M).bind fun r3 => (f_X0_lacking 318 r3.2).bind fun r4 => if r4.1 ≤ v3 then (f_X9_worst_91 (f_X9_worst_33 k97 n) k97 v1 v2 v3 v4 r4.2) else ((f_X0_lacking 318 r4.2).bind fun r6 => f_X9_worst_91 (f_X9_worst_33 k97 n) k97 v1 (M 72 v4.toNat) r6.1 v4 r6.2)) else none)
set_option maxRecDepth 4000 in
theorem t_X9_worst_33 {X : Nat → List sd_V → List sd_E → sd_A → Prop} {d : Nat} (hd : 7 ≤ d) (k97 : Int → Int → Int → sd_M → Option (Int × sd_M)) (hk97 : ∀ (v1 : Int) (v2 : Int) (v3 : Int) (M : sd_M) (Rr : Int × sd_M), k97 v1 v2 v3 M = some Rr → sd_B X d sd_q_X9_worst 97 [(1, .inl (v1)), (2, .inl (v2)), (3, .inl (v3))] [] M (some (.inl Rr.1), sd_rp Rr.2, 0, 0)) : ∀ (n : Nat) (v1 : Int) (v2 : Int) (v3 : Int) (v4 : Int) (M : sd_M) (Rr : Int × sd_M), f_X9_worst_33 k97 n v1 v2 v3 v4 M = some Rr → sd_B X d sd_q_X9_worst 33 [(0, .inr (.inr (some (0)))), (1, .inl (v1)), (2, .inl (v2)), (3, .inl (v3)), (4, .inl (v4))] [] M (some (.inl Rr.1), sd_rp Rr.2, 0, 0) := by
  intro n
  induction n with
  | zero => intro v1 v2 v3 v4 M Rr h; cases h
  | succ n ih =>
    intro v1 v2 v3 v4 M Rr h
    rw [f_X9_worst_33] at h
    refine sd_b_go 2 (pc2 := 36) (lv2 := [(0, .inr (.inr (some (0)))), (1, .inl (v1)), (2, .inl (v2)), (3, .inl (v3)), (4, .inl (v4))]) (st2 := [.inr (.inr (some (0))), .inl (v4)]) rfl ?_
    refine sd_b_gr (k := 5) sd_o_0 rfl rfl rfl ?_
    refine sd_b_gr (k := 1) sd_o_58 rfl rfl rfl ?_
    refine sd_b_gi (k := 3) sd_o_66 rfl rfl rfl ?_
    by_cases c1 : (M 66 3) ≤ v4
    · rw [if_pos c1] at h
      refine sd_b_ct (c := .ge) (tgt := 97) rfl (decide_eq_true c1) (by decide) ?_
      refine sd_b_wk [(1, .inl (v1)), (2, .inl (v2)), (3, .inl (v3))] (List.forall_mem_cons.mpr ⟨rfl, (List.forall_mem_cons.mpr ⟨rfl, (List.forall_mem_cons.mpr ⟨rfl, (fun _ h0 => absurd h0 List.not_mem_nil)⟩)⟩)⟩) ?_
      exact hk97 v1 v2 v3 M _ h
    · rw [if_neg c1] at h
      refine sd_b_cf (c := .ge) rfl (decide_eq_false c1) (by decide) ?_
      refine sd_b_go 1 (pc2 := 49) (lv2 := [(0, .inr (.inr (some (0)))), (1, .inl (v1)), (2, .inl (v2)), (3, .inl (v3)), (4, .inl (v4))]) (st2 := [.inr (.inr (some (0)))]) rfl ?_
      refine sd_b_gr (k := 5) sd_o_0 rfl rfl rfl ?_
      refine sd_b_gr (k := 1) sd_o_58 rfl rfl rfl ?_
      refine sd_b_gr (k := 10) sd_o_66 rfl rfl rfl ?_
      refine sd_b_go 1 (pc2 := 60) (lv2 := [(0, .inr (.inr (some (0)))), (1, .inl (v1)), (2, .inl (v2)), (3, .inl (v3)), (4, .inl (v4))]) (st2 := [.inl (v4), .inr (.inr (some (72)))]) rfl ?_
      obtain ⟨g2, h⟩ := sd_if h
      refine sd_b_ai (sd_oa sd_o_66 (by decide) (off := 6) (List.mem_of_getElem? (i := 5) rfl)) g2 rfl ?_
      refine sd_b_go 3 (pc2 := 66) (lv2 := [(5, .inl (M 72 v4.toNat)), (0, .inr (.inr (some (0)))), (1, .inl (v1)), (2, .inl (v2)), (3, .inl (v3)), (4, .inl (v4))]) (st2 := [.inl (M 72 v4.toNat), .inr (.inr (some (0)))]) rfl ?_
      obtain ⟨r3, e3, h⟩ := sd_bnd h
      refine sd_b_call [.inr (.inr (some (0))), .inl (M 72 v4.toNat)] [] rfl rfl sd_i_X9_tryStriking rfl rfl (Nat.le_of_ble_eq_true rfl) (sd_rc_v sd_o_0) (m_X9_tryStriking (by omega) e3) ?_
      refine sd_b_go 1 (pc2 := 70) (lv2 := [(5, .inl (M 72 v4.toNat)), (0, .inr (.inr (some (0)))), (1, .inl (v1)), (2, .inl (v2)), (3, .inl (v3)), (4, .inl (v4))]) (st2 := [.inr (.inr (some (0)))]) rfl ?_
      refine sd_b_gr (k := 12) sd_o_0 rfl rfl rfl ?_
      obtain ⟨r4, e4, h⟩ := sd_bnd h
      refine sd_b_call [.inr (.inr (some (318)))] [] rfl rfl sd_i_X0_lacking rfl rfl (Nat.le_of_ble_eq_true rfl) (sd_rc_v sd_o_318) (m_X0_lacking (by omega) sd_o_318 e4) ?_
      refine sd_b_go 1 (pc2 := 77) (lv2 := [(5, .inl (M 72 v4.toNat)), (0, .inr (.inr (some (0)))), (1, .inl (v1)), (2, .inl (v2)), (3, .inl (v3)), (4, .inl (v4))]) (st2 := [.inl (v3), .inl (r4.1)]) rfl ?_
      by_cases c5 : r4.1 ≤ v3
      · rw [if_pos c5] at h
        refine sd_b_ct (c := .le) (tgt := 91) rfl (decide_eq_true c5) (by decide) ?_
        refine sd_b_wk [(0, .inr (.inr (some (0)))), (1, .inl (v1)), (2, .inl (v2)), (3, .inl (v3)), (4, .inl (v4))] (List.forall_mem_cons.mpr ⟨rfl, (List.forall_mem_cons.mpr ⟨rfl, (List.forall_mem_cons.mpr ⟨rfl, (List.forall_mem_cons.mpr ⟨rfl, (List.forall_mem_cons.mpr ⟨rfl, (fun _ h0 => absurd h0 List.not_mem_nil)⟩)⟩)⟩)⟩)⟩) ?_
        exact t_X9_worst_91 hd (f_X9_worst_33 k97 n) k97 ih hk97 v1 v2 v3 v4 r4.2 _ h
      · rw [if_neg c5] at h
        refine sd_b_cf (c := .le) rfl (decide_eq_false c5) (by decide) ?_
        refine sd_b_go 1 (pc2 := 81) (lv2 := [(5, .inl (M 72 v4.toNat)), (0, .inr (.inr (some (0)))), (1, .inl (v1)), (2, .inl (v2)), (3, .inl (v3)), (4, .inl (v4))]) (st2 := [.inr (.inr (some (0)))]) rfl ?_
        refine sd_b_gr (k := 12) sd_o_0 rfl rfl rfl ?_
        obtain ⟨r6, e6, h⟩ := sd_bnd h
        refine sd_b_call [.inr (.inr (some (318)))] [] rfl rfl sd_i_X0_lacking rfl rfl (Nat.le_of_ble_eq_true rfl) (sd_rc_v sd_o_318) (m_X0_lacking (by omega) sd_o_318 e6) ?_
        refine sd_b_go 3 (pc2 := 91) (lv2 := [(2, .inl (M 72 v4.toNat)), (3, .inl (r6.1)), (5, .inl (M 72 v4.toNat)), (0, .inr (.inr (some (0)))), (1, .inl (v1)), (4, .inl (v4))]) (st2 := []) rfl ?_
        refine sd_b_wk [(0, .inr (.inr (some (0)))), (1, .inl (v1)), (2, .inl (M 72 v4.toNat)), (3, .inl (r6.1)), (4, .inl (v4))] (List.forall_mem_cons.mpr ⟨rfl, (List.forall_mem_cons.mpr ⟨rfl, (List.forall_mem_cons.mpr ⟨rfl, (List.forall_mem_cons.mpr ⟨rfl, (List.forall_mem_cons.mpr ⟨rfl, (fun _ h0 => absurd h0 List.not_mem_nil)⟩)⟩)⟩)⟩)⟩) ?_
        exact t_X9_worst_91 hd (f_X9_worst_33 k97 n) k97 ih hk97 v1 (M 72 v4.toNat) r6.1 v4 r6.2 _ h
def f_X9_worst_97 (v1 : Int) (v2 : Int) (v3 : Int) (M : sd_M) : Option (Int × sd_M) := if v1 = 0 then (some (v2, M)) else (some (v3, M))
set_option maxRecDepth 4000 in
theorem t_X9_worst_97 {X : Nat → List sd_V → List sd_E → sd_A → Prop} {d : Nat} (hd : 7 ≤ d) (v1 : Int) (v2 : Int) (v3 : Int) (M : sd_M) (Rr : Int × sd_M) (h : f_X9_worst_97 v1 v2 v3 M = some Rr) : sd_B X d sd_q_X9_worst 97 [(1, .inl (v1)), (2, .inl (v2)), (3, .inl (v3))] [] M (some (.inl Rr.1), sd_rp Rr.2, 0, 0) := by
  unfold f_X9_worst_97 at h
  refine sd_b_go 1 (pc2 := 98) (lv2 := [(1, .inl (v1)), (2, .inl (v2)), (3, .inl (v3))]) (st2 := [.inl (v1)]) rfl ?_
  by_cases c1 : v1 = 0
  · rw [if_pos c1] at h
    refine sd_b_zf (c := .ne) rfl (decide_eq_false (not_not_intro c1)) (by decide) ?_
    refine sd_b_go 2 (pc2 := 106) (lv2 := [(1, .inl (v1)), (2, .inl (v2)), (3, .inl (v3))]) (st2 := [.inl (v2)]) rfl ?_
    cases h
    exact sd_b_rt rfl rfl rfl
  · rw [if_neg c1] at h
    refine sd_b_zt (c := .ne) (tgt := 105) rfl (decide_eq_true c1) (by decide) ?_
    refine sd_b_go 1 (pc2 := 106) (lv2 := [(1, .inl (v1)), (2, .inl (v2)), (3, .inl (v3))]) (st2 := [.inl (v3)]) rfl ?_
    cases h
    exact sd_b_rt rfl rfl rfl
def f_X9_worst (p1 : Int) (M : sd_M) : Option (Int × sd_M) := if (M 59 0) = 0 then (some ((-1), M)) else (if p1 < 0 then (some ((-1), M)) else (if p1 ≤ 1 then (f_X9_worst_33 (f_X9_worst_97) 4000 p1 ((-2)) ((-2)) 0 M) else (some ((-1), M))))
set_option maxRecDepth 4000 in
theorem t_X9_worst {X : Nat → List sd_V → List sd_E → sd_A → Prop} {d : Nat} (hd : 7 ≤ d) (p1 : Int) (M : sd_M) (Rr : Int × sd_M) (h : f_X9_worst p1 M = some Rr) : sd_B X d sd_q_X9_worst 0 [(0, .inr (.inr (some (0)))), (1, .inl (p1))] [] M (some (.inl Rr.1), sd_rp Rr.2, 0, 0) := by
  unfold f_X9_worst at h
  refine sd_b_go 1 (pc2 := 1) (lv2 := [(0, .inr (.inr (some (0)))), (1, .inl (p1))]) (st2 := [.inr (.inr (some (0)))]) rfl ?_
  refine sd_b_gr (k := 5) sd_o_0 rfl rfl rfl ?_
  refine sd_b_gr (k := 0) sd_o_58 rfl rfl rfl ?_
  refine sd_b_gi (k := 0) sd_o_59 rfl rfl rfl ?_
  by_cases c1 : (M 59 0) = 0
  · rw [if_pos c1] at h
    refine sd_b_zt (c := .eq) (tgt := 22) rfl (decide_eq_true c1) (by decide) ?_
    refine sd_b_go 1 (pc2 := 23) (lv2 := [(0, .inr (.inr (some (0)))), (1, .inl (p1))]) (st2 := [.inl ((-1))]) rfl ?_
    cases h
    exact sd_b_rt rfl rfl rfl
  · rw [if_neg c1] at h
    refine sd_b_zf (c := .eq) rfl (decide_eq_false c1) (by decide) ?_
    refine sd_b_go 1 (pc2 := 14) (lv2 := [(0, .inr (.inr (some (0)))), (1, .inl (p1))]) (st2 := [.inl (p1)]) rfl ?_
    by_cases c2 : p1 < 0
    · rw [if_pos c2] at h
      refine sd_b_zt (c := .lt) (tgt := 22) rfl (decide_eq_true c2) (by decide) ?_
      refine sd_b_go 1 (pc2 := 23) (lv2 := [(0, .inr (.inr (some (0)))), (1, .inl (p1))]) (st2 := [.inl ((-1))]) rfl ?_
      cases h
      exact sd_b_rt rfl rfl rfl
    · rw [if_neg c2] at h
      refine sd_b_zf (c := .lt) rfl (decide_eq_false c2) (by decide) ?_
      refine sd_b_go 2 (pc2 := 19) (lv2 := [(0, .inr (.inr (some (0)))), (1, .inl (p1))]) (st2 := [.inl (1), .inl (p1)]) rfl ?_
      by_cases c3 : p1 ≤ 1
      · rw [if_pos c3] at h
        refine sd_b_ct (c := .le) (tgt := 24) rfl (decide_eq_true c3) (by decide) ?_
        refine sd_b_go 6 (pc2 := 33) (lv2 := [(4, .inl (0)), (3, .inl ((-2))), (2, .inl ((-2))), (0, .inr (.inr (some (0)))), (1, .inl (p1))]) (st2 := []) rfl ?_
        refine sd_b_wk [(0, .inr (.inr (some (0)))), (1, .inl (p1)), (2, .inl ((-2))), (3, .inl ((-2))), (4, .inl (0))] (List.forall_mem_cons.mpr ⟨rfl, (List.forall_mem_cons.mpr ⟨rfl, (List.forall_mem_cons.mpr ⟨rfl, (List.forall_mem_cons.mpr ⟨rfl, (List.forall_mem_cons.mpr ⟨rfl, (fun _ h0 => absurd h0 List.not_mem_nil)⟩)⟩)⟩)⟩)⟩) ?_
        exact t_X9_worst_33 hd (f_X9_worst_97) (t_X9_worst_97 hd) 4000 p1 ((-2)) ((-2)) 0 M _ h
      · rw [if_neg c3] at h
        refine sd_b_cf (c := .le) rfl (decide_eq_false c3) (by decide) ?_
        refine sd_b_go 1 (pc2 := 23) (lv2 := [(0, .inr (.inr (some (0)))), (1, .inl (p1))]) (st2 := [.inl ((-1))]) rfl ?_
        cases h
        exact sd_b_rt rfl rfl rfl
theorem m_X9_worst {X : Nat → List sd_V → List sd_E → sd_A → Prop} {d : Nat} (hd : 8 ≤ d) {p1 : Int} {M : sd_M} {Rr : Int × sd_M} (h : f_X9_worst p1 M = some Rr) : sd_Cal X d 93 [.inr (.inr (some (0))), .inl (p1)] (sd_rp M) (some (.inl Rr.1), sd_rp Rr.2, 0, 0) := by
  obtain ⟨d, rfl⟩ : ∃ d2, d = d2 + 1 := ⟨d - 1, by omega⟩
  exact sd_cal_of sd_i_X9_worst (Nat.le_of_ble_eq_true rfl) (t_X9_worst (by omega) p1 M Rr h)
-- X9_firm
def sd_q_X9_firm : sd_MI := (yX9_firm, cX9_firm, 4, (some .int), 9, 0, sd_t_X9_firm)
set_option maxRecDepth 4000 in
theorem sd_i_X9_firm : sd_mL[94]? = some sd_q_X9_firm := rfl
def f_X9_firm_28 : Nat → Int → Int → sd_M → Option (Int × sd_M)
  | 0, _, _, _ => none
  | n + 1, v1, v2, M => if (M 66 3) ≤ v2 then (some (v1, M)) else (if 0 ≤ v2 ∧ v2 < 9 then ((f_X9_tryStriking (M 72 v2.toNat) M).bind fun r3 => (f_X0_lineBits 318 r3.2).bind fun r4 => f_X9_firm_28 n (sd_and (v1) (sd_or (r4.1) (sd_shl (1) (M 72 v2.toNat)))) (sd_w (v2 + 1)) r4.2) else none)
set_option maxRecDepth 4000 in
theorem t_X9_firm_28 {X : Nat → List sd_V → List sd_E → sd_A → Prop} {d : Nat} (hd : 7 ≤ d) : ∀ (n : Nat) (v1 : Int) (v2 : Int) (M : sd_M) (Rr : Int × sd_M), f_X9_firm_28 n v1 v2 M = some Rr → sd_B X d sd_q_X9_firm 28 [(0, .inr (.inr (some (0)))), (1, .inl (v1)), (2, .inl (v2))] [] M (some (.inl Rr.1), sd_rp Rr.2, 0, 0) := by
  intro n
  induction n with
  | zero => intro v1 v2 M Rr h; cases h
  | succ n ih =>
    intro v1 v2 M Rr h
    rw [f_X9_firm_28] at h
    refine sd_b_go 2 (pc2 := 30) (lv2 := [(0, .inr (.inr (some (0)))), (1, .inl (v1)), (2, .inl (v2))]) (st2 := [.inr (.inr (some (0))), .inl (v2)]) rfl ?_
    refine sd_b_gr (k := 5) sd_o_0 rfl rfl rfl ?_
    refine sd_b_gr (k := 1) sd_o_58 rfl rfl rfl ?_
    refine sd_b_gi (k := 3) sd_o_66 rfl rfl rfl ?_
    by_cases c1 : (M 66 3) ≤ v2
    · rw [if_pos c1] at h
      refine sd_b_ct (c := .ge) (tgt := 80) rfl (decide_eq_true c1) (by decide) ?_
      refine sd_b_go 1 (pc2 := 81) (lv2 := [(0, .inr (.inr (some (0)))), (1, .inl (v1)), (2, .inl (v2))]) (st2 := [.inl (v1)]) rfl ?_
      cases h
      exact sd_b_rt rfl rfl rfl
    · rw [if_neg c1] at h
      refine sd_b_cf (c := .ge) rfl (decide_eq_false c1) (by decide) ?_
      refine sd_b_go 1 (pc2 := 43) (lv2 := [(0, .inr (.inr (some (0)))), (1, .inl (v1)), (2, .inl (v2))]) (st2 := [.inr (.inr (some (0)))]) rfl ?_
      refine sd_b_gr (k := 5) sd_o_0 rfl rfl rfl ?_
      refine sd_b_gr (k := 1) sd_o_58 rfl rfl rfl ?_
      refine sd_b_gr (k := 10) sd_o_66 rfl rfl rfl ?_
      refine sd_b_go 1 (pc2 := 53) (lv2 := [(0, .inr (.inr (some (0)))), (1, .inl (v1)), (2, .inl (v2))]) (st2 := [.inl (v2), .inr (.inr (some (72)))]) rfl ?_
      obtain ⟨g2, h⟩ := sd_if h
      refine sd_b_ai (sd_oa sd_o_66 (by decide) (off := 6) (List.mem_of_getElem? (i := 5) rfl)) g2 rfl ?_
      refine sd_b_go 3 (pc2 := 57) (lv2 := [(3, .inl (M 72 v2.toNat)), (0, .inr (.inr (some (0)))), (1, .inl (v1)), (2, .inl (v2))]) (st2 := [.inl (M 72 v2.toNat), .inr (.inr (some (0)))]) rfl ?_
      obtain ⟨r3, e3, h⟩ := sd_bnd h
      refine sd_b_call [.inr (.inr (some (0))), .inl (M 72 v2.toNat)] [] rfl rfl sd_i_X9_tryStriking rfl rfl (Nat.le_of_ble_eq_true rfl) (sd_rc_v sd_o_0) (m_X9_tryStriking (by omega) e3) ?_
      refine sd_b_go 2 (pc2 := 62) (lv2 := [(3, .inl (M 72 v2.toNat)), (0, .inr (.inr (some (0)))), (1, .inl (v1)), (2, .inl (v2))]) (st2 := [.inr (.inr (some (0))), .inl (v1)]) rfl ?_
      refine sd_b_gr (k := 12) sd_o_0 rfl rfl rfl ?_
      obtain ⟨r4, e4, h⟩ := sd_bnd h
      refine sd_b_call [.inr (.inr (some (318)))] [.inl (v1)] rfl rfl sd_i_X0_lineBits rfl rfl (Nat.le_of_ble_eq_true rfl) (sd_rc_v sd_o_318) (m_X0_lineBits (by omega) sd_o_318 e4) ?_
      refine sd_b_go 8 (pc2 := 28) (lv2 := [(2, .inl (sd_w (v2 + 1))), (1, .inl (sd_and (v1) (sd_or (r4.1) (sd_shl (1) (M 72 v2.toNat))))), (3, .inl (M 72 v2.toNat)), (0, .inr (.inr (some (0))))]) (st2 := []) rfl ?_
      refine sd_b_wk [(0, .inr (.inr (some (0)))), (1, .inl (sd_and (v1) (sd_or (r4.1) (sd_shl (1) (M 72 v2.toNat))))), (2, .inl (sd_w (v2 + 1)))] (List.forall_mem_cons.mpr ⟨rfl, (List.forall_mem_cons.mpr ⟨rfl, (List.forall_mem_cons.mpr ⟨rfl, (fun _ h0 => absurd h0 List.not_mem_nil)⟩)⟩)⟩) ?_
      exact ih (sd_and (v1) (sd_or (r4.1) (sd_shl (1) (M 72 v2.toNat)))) (sd_w (v2 + 1)) r4.2 _ h
def f_X9_firm (M : sd_M) : Option (Int × sd_M) := if (M 59 0) = 0 then (some ((-1), M)) else ((f_X0_lineBits 66 M).bind fun r2 => f_X9_firm_28 4000 r2.1 0 r2.2)
set_option maxRecDepth 4000 in
theorem t_X9_firm {X : Nat → List sd_V → List sd_E → sd_A → Prop} {d : Nat} (hd : 7 ≤ d) (M : sd_M) (Rr : Int × sd_M) (h : f_X9_firm M = some Rr) : sd_B X d sd_q_X9_firm 0 [(0, .inr (.inr (some (0))))] [] M (some (.inl Rr.1), sd_rp Rr.2, 0, 0) := by
  unfold f_X9_firm at h
  refine sd_b_go 1 (pc2 := 1) (lv2 := [(0, .inr (.inr (some (0))))]) (st2 := [.inr (.inr (some (0)))]) rfl ?_
  refine sd_b_gr (k := 5) sd_o_0 rfl rfl rfl ?_
  refine sd_b_gr (k := 0) sd_o_58 rfl rfl rfl ?_
  refine sd_b_gi (k := 0) sd_o_59 rfl rfl rfl ?_
  by_cases c1 : (M 59 0) = 0
  · rw [if_pos c1] at h
    refine sd_b_zf (c := .ne) rfl (decide_eq_false (not_not_intro c1)) (by decide) ?_
    refine sd_b_go 1 (pc2 := 14) (lv2 := [(0, .inr (.inr (some (0))))]) (st2 := [.inl ((-1))]) rfl ?_
    cases h
    exact sd_b_rt rfl rfl rfl
  · rw [if_neg c1] at h
    refine sd_b_zt (c := .ne) (tgt := 15) rfl (decide_eq_true c1) (by decide) ?_
    refine sd_b_go 1 (pc2 := 16) (lv2 := [(0, .inr (.inr (some (0))))]) (st2 := [.inr (.inr (some (0)))]) rfl ?_
    refine sd_b_gr (k := 5) sd_o_0 rfl rfl rfl ?_
    refine sd_b_gr (k := 1) sd_o_58 rfl rfl rfl ?_
    obtain ⟨r2, e2, h⟩ := sd_bnd h
    refine sd_b_call [.inr (.inr (some (66)))] [] rfl rfl sd_i_X0_lineBits rfl rfl (Nat.le_of_ble_eq_true rfl) (sd_rc_v sd_o_66) (m_X0_lineBits (by omega) sd_o_66 e2) ?_
    refine sd_b_go 3 (pc2 := 28) (lv2 := [(2, .inl (0)), (1, .inl (r2.1)), (0, .inr (.inr (some (0))))]) (st2 := []) rfl ?_
    refine sd_b_wk [(0, .inr (.inr (some (0)))), (1, .inl (r2.1)), (2, .inl (0))] (List.forall_mem_cons.mpr ⟨rfl, (List.forall_mem_cons.mpr ⟨rfl, (List.forall_mem_cons.mpr ⟨rfl, (fun _ h0 => absurd h0 List.not_mem_nil)⟩)⟩)⟩) ?_
    exact t_X9_firm_28 hd 4000 r2.1 0 r2.2 _ h
theorem m_X9_firm {X : Nat → List sd_V → List sd_E → sd_A → Prop} {d : Nat} (hd : 8 ≤ d) {M : sd_M} {Rr : Int × sd_M} (h : f_X9_firm M = some Rr) : sd_Cal X d 94 [.inr (.inr (some (0)))] (sd_rp M) (some (.inl Rr.1), sd_rp Rr.2, 0, 0) := by
  obtain ⟨d, rfl⟩ : ∃ d2, d = d2 + 1 := ⟨d - 1, by omega⟩
  exact sd_cal_of sd_i_X9_firm (Nat.le_of_ble_eq_true rfl) (t_X9_firm (by omega) M Rr h)
