-- X9_remember
def sd_q_X9_remember : sd_MI := (yX9_remember, cX9_remember, 1, none, 9, 0, sd_t_X9_remember)
set_option maxRecDepth 4000 in
theorem sd_i_X9_remember : sd_mL[89]? = some sd_q_X9_remember := rfl
def f_X9_remember_39 (s0 : Int) (M : sd_M) : Option (Int × sd_M) := some (0, sd_s (sd_s M 0 10 s0) 0 9 (if (sd_w ((sd_s M 0 10 s0 0 9) + 1)) < 20 then (sd_w ((sd_s M 0 10 s0 0 9) + 1)) else 20))
set_option maxRecDepth 4000 in
theorem t_X9_remember_39 {X : Nat → List sd_V → List sd_E → sd_A → Prop} {d : Nat} (hd : 1 ≤ d) (s0 : Int) (M : sd_M) (Rr : Int × sd_M) (h : f_X9_remember_39 s0 M = some Rr) : sd_B X d sd_q_X9_remember 39 [(0, .inr (.inr (some (0))))] [.inl (s0), .inr (.inr (some (0)))] M (none, sd_rp Rr.2, 0, 0) := by
  unfold f_X9_remember_39 at h
  refine sd_b_pi (k := 10) sd_o_0 rfl rfl rfl rfl rfl ?_
  refine sd_b_go 3 (pc2 := 46) (lv2 := [(0, .inr (.inr (some (0))))]) (st2 := [.inr (.inr (some (0))), .inl (20), .inr (.inr (some (0)))]) rfl ?_
  refine sd_b_gi (k := 9) sd_o_0 rfl rfl rfl ?_
  refine sd_b_go 2 (pc2 := 51) (lv2 := [(0, .inr (.inr (some (0))))]) (st2 := [.inl (sd_w ((sd_s M 0 10 s0 0 9) + 1)), .inl (20), .inr (.inr (some (0)))]) rfl ?_
  refine sd_b_go 1 (pc2 := 54) (lv2 := [(0, .inr (.inr (some (0))))]) (st2 := [.inl (if (sd_w ((sd_s M 0 10 s0 0 9) + 1)) < 20 then (sd_w ((sd_s M 0 10 s0 0 9) + 1)) else 20), .inr (.inr (some (0)))]) rfl ?_
  refine sd_b_pi (k := 9) sd_o_0 rfl rfl rfl rfl rfl ?_
  cases h
  exact sd_b_rt rfl rfl rfl
def f_X9_remember (M : sd_M) : Option (Int × sd_M) := if 0 ≤ (M 0 10) ∧ (M 0 10) < 20 then ((f_X0_copyFrom (156 + 8 * (M 0 10).toNat) 66 M).bind fun r2 => if 19 ≤ (r2.2 0 10) then (f_X9_remember_39 0 r2.2) else (f_X9_remember_39 (sd_w ((r2.2 0 10) + 1)) r2.2)) else none
set_option maxRecDepth 4000 in
theorem t_X9_remember {X : Nat → List sd_V → List sd_E → sd_A → Prop} {d : Nat} (hd : 1 ≤ d) (M : sd_M) (Rr : Int × sd_M) (h : f_X9_remember M = some Rr) : sd_B X d sd_q_X9_remember 0 [(0, .inr (.inr (some (0))))] [] M (none, sd_rp Rr.2, 0, 0) := by
  unfold f_X9_remember at h
  refine sd_b_go 1 (pc2 := 1) (lv2 := [(0, .inr (.inr (some (0))))]) (st2 := [.inr (.inr (some (0)))]) rfl ?_
  refine sd_b_gr (k := 8) sd_o_0 rfl rfl rfl ?_
  refine sd_b_go 1 (pc2 := 5) (lv2 := [(0, .inr (.inr (some (0))))]) (st2 := [.inr (.inr (some (0))), .inr (.inr (some (155)))]) rfl ?_
  refine sd_b_gi (k := 10) sd_o_0 rfl rfl rfl ?_
  obtain ⟨g1, h⟩ := sd_if h
  refine sd_b_ar sd_ra_155 g1 rfl ?_
  refine sd_b_go 1 (pc2 := 10) (lv2 := [(0, .inr (.inr (some (0))))]) (st2 := [.inr (.inr (some (0))), .inr (.inr (some (156 + 8 * (M 0 10).toNat)))]) rfl ?_
  refine sd_b_gr (k := 5) sd_o_0 rfl rfl rfl ?_
  refine sd_b_gr (k := 1) sd_o_58 rfl rfl rfl ?_
  obtain ⟨r2, e2, h⟩ := sd_bnd h
  refine sd_b_call [.inr (.inr (some (156 + 8 * (M 0 10).toNat))), .inr (.inr (some (66)))] [] rfl rfl sd_i_X0_copyFrom rfl rfl (Nat.le_of_ble_eq_true rfl) (sd_rc_v (sd_re_155 _ (by omega))) (m_X0_copyFrom (by omega) (sd_re_155 _ (by omega)) sd_o_66 e2) ?_
  refine sd_b_go 2 (pc2 := 21) (lv2 := [(0, .inr (.inr (some (0))))]) (st2 := [.inr (.inr (some (0))), .inr (.inr (some (0)))]) rfl ?_
  refine sd_b_gi (k := 10) sd_o_0 rfl rfl rfl ?_
  refine sd_b_go 1 (pc2 := 26) (lv2 := [(0, .inr (.inr (some (0))))]) (st2 := [.inl (19), .inl (r2.2 0 10), .inr (.inr (some (0)))]) rfl ?_
  by_cases c3 : 19 ≤ (r2.2 0 10)
  · rw [if_pos c3] at h
    refine sd_b_ct (c := .ge) (tgt := 38) rfl (decide_eq_true c3) (by decide) ?_
    refine sd_b_go 1 (pc2 := 39) (lv2 := [(0, .inr (.inr (some (0))))]) (st2 := [.inl (0), .inr (.inr (some (0)))]) rfl ?_
    refine sd_b_wk [(0, .inr (.inr (some (0))))] (List.forall_mem_cons.mpr ⟨rfl, (fun _ h0 => absurd h0 List.not_mem_nil)⟩) ?_
    exact t_X9_remember_39 hd 0 r2.2 _ h
  · rw [if_neg c3] at h
    refine sd_b_cf (c := .ge) rfl (decide_eq_false c3) (by decide) ?_
    refine sd_b_go 1 (pc2 := 30) (lv2 := [(0, .inr (.inr (some (0))))]) (st2 := [.inr (.inr (some (0))), .inr (.inr (some (0)))]) rfl ?_
    refine sd_b_gi (k := 10) sd_o_0 rfl rfl rfl ?_
    refine sd_b_go 3 (pc2 := 39) (lv2 := [(0, .inr (.inr (some (0))))]) (st2 := [.inl (sd_w ((r2.2 0 10) + 1)), .inr (.inr (some (0)))]) rfl ?_
    refine sd_b_wk [(0, .inr (.inr (some (0))))] (List.forall_mem_cons.mpr ⟨rfl, (fun _ h0 => absurd h0 List.not_mem_nil)⟩) ?_
    exact t_X9_remember_39 hd (sd_w ((r2.2 0 10) + 1)) r2.2 _ h
theorem m_X9_remember {X : Nat → List sd_V → List sd_E → sd_A → Prop} {d : Nat} (hd : 2 ≤ d) {M : sd_M} {Rr : Int × sd_M} (h : f_X9_remember M = some Rr) : sd_Cal X d 89 [.inr (.inr (some (0)))] (sd_rp M) (none, sd_rp Rr.2, 0, 0) := by
  obtain ⟨d, rfl⟩ : ∃ d2, d = d2 + 1 := ⟨d - 1, by omega⟩
  exact sd_cal_of sd_i_X9_remember (Nat.le_of_ble_eq_true rfl) (t_X9_remember (by omega) M Rr h)
-- X9_isAgreed
def sd_q_X9_isAgreed : sd_MI := (yX9_isAgreed, cX9_isAgreed, 4, (some .boolean), 9, 1, sd_t_X9_isAgreed)
set_option maxRecDepth 4000 in
theorem sd_i_X9_isAgreed : sd_mL[98]? = some sd_q_X9_isAgreed := rfl
def f_X9_isAgreed_27 (v1 : Int) (s0 : Int) (M : sd_M) : Option (Int × sd_M) := if s0 = 0 then (some (0, M)) else ((f_X0_signedOf 66 v1 M).bind fun r2 => (f_X0_lineBits 66 r2.2).bind fun r3 => (f_X0_signedOf 66 r3.1 r3.2).bind fun r4 => if (sd_w (3 * r2.1)) < (sd_w (2 * r4.1)) then (some (0, r4.2)) else (some (1, r4.2)))
set_option maxRecDepth 4000 in
theorem t_X9_isAgreed_27 {X : Nat → List sd_V → List sd_E → sd_A → Prop} {d : Nat} (hd : 2 ≤ d) (v1 : Int) (s0 : Int) (M : sd_M) (Rr : Int × sd_M) (h : f_X9_isAgreed_27 v1 s0 M = some Rr) : sd_B X d sd_q_X9_isAgreed 27 [(1, .inl (v1)), (2, .inr (.inr (some (66))))] [.inl (s0)] M (some (.inl Rr.1), sd_rp Rr.2, 0, 0) := by
  unfold f_X9_isAgreed_27 at h
  refine sd_b_go 2 (pc2 := 29) (lv2 := [(3, .inl (s0)), (1, .inl (v1)), (2, .inr (.inr (some (66))))]) (st2 := [.inl (s0)]) rfl ?_
  by_cases c1 : s0 = 0
  · rw [if_pos c1] at h
    refine sd_b_zt (c := .eq) (tgt := 56) rfl (decide_eq_true c1) (by decide) ?_
    refine sd_b_go 1 (pc2 := 57) (lv2 := [(3, .inl (s0)), (1, .inl (v1)), (2, .inr (.inr (some (66))))]) (st2 := [.inl (0)]) rfl ?_
    cases h
    exact sd_b_rt rfl rfl rfl
  · rw [if_neg c1] at h
    refine sd_b_zf (c := .eq) rfl (decide_eq_false c1) (by decide) ?_
    refine sd_b_go 3 (pc2 := 35) (lv2 := [(3, .inl (s0)), (1, .inl (v1)), (2, .inr (.inr (some (66))))]) (st2 := [.inl (v1), .inr (.inr (some (66))), .inl (3)]) rfl ?_
    obtain ⟨r2, e2, h⟩ := sd_bnd h
    refine sd_b_call [.inr (.inr (some (66))), .inl (v1)] [.inl (3)] rfl rfl sd_i_X0_signedOf rfl rfl (Nat.le_of_ble_eq_true rfl) (sd_rc_v sd_o_66) (m_X0_signedOf (by omega) sd_o_66 e2) ?_
    refine sd_b_go 4 (pc2 := 42) (lv2 := [(3, .inl (s0)), (1, .inl (v1)), (2, .inr (.inr (some (66))))]) (st2 := [.inr (.inr (some (66))), .inr (.inr (some (66))), .inl (2), .inl (sd_w (3 * r2.1))]) rfl ?_
    obtain ⟨r3, e3, h⟩ := sd_bnd h
    refine sd_b_call [.inr (.inr (some (66)))] [.inr (.inr (some (66))), .inl (2), .inl (sd_w (3 * r2.1))] rfl rfl sd_i_X0_lineBits rfl rfl (Nat.le_of_ble_eq_true rfl) (sd_rc_v sd_o_66) (m_X0_lineBits (by omega) sd_o_66 e3) ?_
    obtain ⟨r4, e4, h⟩ := sd_bnd h
    refine sd_b_call [.inr (.inr (some (66))), .inl (r3.1)] [.inl (2), .inl (sd_w (3 * r2.1))] rfl rfl sd_i_X0_signedOf rfl rfl (Nat.le_of_ble_eq_true rfl) (sd_rc_v sd_o_66) (m_X0_signedOf (by omega) sd_o_66 e4) ?_
    refine sd_b_go 1 (pc2 := 49) (lv2 := [(3, .inl (s0)), (1, .inl (v1)), (2, .inr (.inr (some (66))))]) (st2 := [.inl (sd_w (2 * r4.1)), .inl (sd_w (3 * r2.1))]) rfl ?_
    by_cases c5 : (sd_w (3 * r2.1)) < (sd_w (2 * r4.1))
    · rw [if_pos c5] at h
      refine sd_b_ct (c := .lt) (tgt := 56) rfl (decide_eq_true c5) (by decide) ?_
      refine sd_b_go 1 (pc2 := 57) (lv2 := [(3, .inl (s0)), (1, .inl (v1)), (2, .inr (.inr (some (66))))]) (st2 := [.inl (0)]) rfl ?_
      cases h
      exact sd_b_rt rfl rfl rfl
    · rw [if_neg c5] at h
      refine sd_b_cf (c := .lt) rfl (decide_eq_false c5) (by decide) ?_
      refine sd_b_go 2 (pc2 := 57) (lv2 := [(3, .inl (s0)), (1, .inl (v1)), (2, .inr (.inr (some (66))))]) (st2 := [.inl (1)]) rfl ?_
      cases h
      exact sd_b_rt rfl rfl rfl
def f_X9_isAgreed (p1 : Int) (M : sd_M) : Option (Int × sd_M) := if (sd_and (sd_shr (p1) (M 72 0)) (1)) = 1 then (f_X9_isAgreed_27 p1 1 M) else (f_X9_isAgreed_27 p1 0 M)
set_option maxRecDepth 4000 in
theorem t_X9_isAgreed {X : Nat → List sd_V → List sd_E → sd_A → Prop} {d : Nat} (hd : 2 ≤ d) (p1 : Int) (M : sd_M) (Rr : Int × sd_M) (h : f_X9_isAgreed p1 M = some Rr) : sd_B X d sd_q_X9_isAgreed 0 [(0, .inr (.inr (some (0)))), (1, .inl (p1))] [] M (some (.inl Rr.1), sd_rp Rr.2, 0, 0) := by
  unfold f_X9_isAgreed at h
  refine sd_b_go 1 (pc2 := 1) (lv2 := [(0, .inr (.inr (some (0)))), (1, .inl (p1))]) (st2 := [.inr (.inr (some (0)))]) rfl ?_
  refine sd_b_gr (k := 5) sd_o_0 rfl rfl rfl ?_
  refine sd_b_gr (k := 1) sd_o_58 rfl rfl rfl ?_
  refine sd_b_go 3 (pc2 := 10) (lv2 := [(2, .inr (.inr (some (66)))), (0, .inr (.inr (some (0)))), (1, .inl (p1))]) (st2 := [.inr (.inr (some (66))), .inl (p1)]) rfl ?_
  refine sd_b_gr (k := 10) sd_o_66 rfl rfl rfl ?_
  refine sd_b_go 1 (pc2 := 14) (lv2 := [(2, .inr (.inr (some (66)))), (0, .inr (.inr (some (0)))), (1, .inl (p1))]) (st2 := [.inl (0), .inr (.inr (some (72))), .inl (p1)]) rfl ?_
  refine sd_b_ai (i := 0) (sd_oa sd_o_66 (by decide) (off := 6) (List.mem_of_getElem? (i := 5) rfl)) (by decide) rfl ?_
  refine sd_b_go 4 (pc2 := 19) (lv2 := [(2, .inr (.inr (some (66)))), (0, .inr (.inr (some (0)))), (1, .inl (p1))]) (st2 := [.inl (1), .inl (sd_and (sd_shr (p1) (M 72 0)) (1))]) rfl ?_
  by_cases c1 : (sd_and (sd_shr (p1) (M 72 0)) (1)) = 1
  · rw [if_pos c1] at h
    refine sd_b_cf (c := .ne) rfl (decide_eq_false (not_not_intro c1)) (by decide) ?_
    refine sd_b_go 2 (pc2 := 27) (lv2 := [(2, .inr (.inr (some (66)))), (0, .inr (.inr (some (0)))), (1, .inl (p1))]) (st2 := [.inl (1)]) rfl ?_
    refine sd_b_wk [(1, .inl (p1)), (2, .inr (.inr (some (66))))] (List.forall_mem_cons.mpr ⟨rfl, (List.forall_mem_cons.mpr ⟨rfl, (fun _ h0 => absurd h0 List.not_mem_nil)⟩)⟩) ?_
    exact t_X9_isAgreed_27 hd p1 1 M _ h
  · rw [if_neg c1] at h
    refine sd_b_ct (c := .ne) (tgt := 26) rfl (decide_eq_true c1) (by decide) ?_
    refine sd_b_go 1 (pc2 := 27) (lv2 := [(2, .inr (.inr (some (66)))), (0, .inr (.inr (some (0)))), (1, .inl (p1))]) (st2 := [.inl (0)]) rfl ?_
    refine sd_b_wk [(1, .inl (p1)), (2, .inr (.inr (some (66))))] (List.forall_mem_cons.mpr ⟨rfl, (List.forall_mem_cons.mpr ⟨rfl, (fun _ h0 => absurd h0 List.not_mem_nil)⟩)⟩) ?_
    exact t_X9_isAgreed_27 hd p1 0 M _ h
theorem m_X9_isAgreed {X : Nat → List sd_V → List sd_E → sd_A → Prop} {d : Nat} (hd : 3 ≤ d) {p1 : Int} {M : sd_M} {Rr : Int × sd_M} (h : f_X9_isAgreed p1 M = some Rr) : sd_Cal X d 98 [.inr (.inr (some (0))), .inl (p1)] (sd_rp M) (some (.inl Rr.1), sd_rp Rr.2, 0, 0) := by
  obtain ⟨d, rfl⟩ : ∃ d2, d = d2 + 1 := ⟨d - 1, by omega⟩
  exact sd_cal_of sd_i_X9_isAgreed (Nat.le_of_ble_eq_true rfl) (t_X9_isAgreed (by omega) p1 M Rr h)
-- X9_nthBit
def sd_q_X9_nthBit : sd_MI := (yX9_nthBit, cX9_nthBit, 4, (some .int), 9, 2, sd_t_X9_nthBit)
set_option maxRecDepth 4000 in
theorem sd_i_X9_nthBit : sd_mL[101]? = some sd_q_X9_nthBit := rfl
def f_X9_nthBit_29 (k4 : Int → Int → Int → Int → sd_M → Option (Int × sd_M)) (v0 : Int) (v1 : Int) (v2 : Int) (v3 : Int) (M : sd_M) : Option (Int × sd_M) := k4 v0 v1 v2 (sd_w (v3 + 1)) M
set_option maxRecDepth 4000 in
theorem t_X9_nthBit_29 {X : Nat → List sd_V → List sd_E → sd_A → Prop} {d : Nat} (hd : 0 ≤ d) (k4 : Int → Int → Int → Int → sd_M → Option (Int × sd_M)) (hk4 : ∀ (v0 : Int) (v1 : Int) (v2 : Int) (v3 : Int) (M : sd_M) (Rr : Int × sd_M), k4 v0 v1 v2 v3 M = some Rr → sd_B X d sd_q_X9_nthBit 4 [(0, .inl (v0)), (1, .inl (v1)), (2, .inl (v2)), (3, .inl (v3))] [] M (some (.inl Rr.1), sd_rp Rr.2, 0, 0)) (v0 : Int) (v1 : Int) (v2 : Int) (v3 : Int) (M : sd_M) (Rr : Int × sd_M) (h : f_X9_nthBit_29 k4 v0 v1 v2 v3 M = some Rr) : sd_B X d sd_q_X9_nthBit 29 [(0, .inl (v0)), (1, .inl (v1)), (2, .inl (v2)), (3, .inl (v3))] [] M (some (.inl Rr.1), sd_rp Rr.2, 0, 0) := by
  unfold f_X9_nthBit_29 at h
  refine sd_b_go 2 (pc2 := 4) (lv2 := [(3, .inl (sd_w (v3 + 1))), (0, .inl (v0)), (1, .inl (v1)), (2, .inl (v2))]) (st2 := []) rfl ?_
  refine sd_b_wk [(0, .inl (v0)), (1, .inl (v1)), (2, .inl (v2)), (3, .inl (sd_w (v3 + 1)))] (List.forall_mem_cons.mpr ⟨rfl, (List.forall_mem_cons.mpr ⟨rfl, (List.forall_mem_cons.mpr ⟨rfl, (List.forall_mem_cons.mpr ⟨rfl, (fun _ h0 => absurd h0 List.not_mem_nil)⟩)⟩)⟩)⟩) ?_
  exact hk4 v0 v1 v2 (sd_w (v3 + 1)) M _ h
def f_X9_nthBit_4 : Nat → Int → Int → Int → Int → sd_M → Option (Int × sd_M)
  | 0, _, _, _, _, _ => none
  | n + 1, v0, v1, v2, v3, M => if 9 ≤ v3 then (some (0, M)) else (if (sd_and (sd_shr (v0) (v3)) (1)) = 1 then (if v2 = v1 then (some (v3, M)) else (f_X9_nthBit_29 (f_X9_nthBit_4 n) v0 v1 (sd_w (v2 + 1)) v3 M)) else (f_X9_nthBit_29 (f_X9_nthBit_4 n) v0 v1 v2 v3 M))
set_option maxRecDepth 4000 in
theorem t_X9_nthBit_4 {X : Nat → List sd_V → List sd_E → sd_A → Prop} {d : Nat} (hd : 0 ≤ d) : ∀ (n : Nat) (v0 : Int) (v1 : Int) (v2 : Int) (v3 : Int) (M : sd_M) (Rr : Int × sd_M), f_X9_nthBit_4 n v0 v1 v2 v3 M = some Rr → sd_B X d sd_q_X9_nthBit 4 [(0, .inl (v0)), (1, .inl (v1)), (2, .inl (v2)), (3, .inl (v3))] [] M (some (.inl Rr.1), sd_rp Rr.2, 0, 0) := by
  intro n
  induction n with
  | zero => intro v0 v1 v2 v3 M Rr h; cases h
  | succ n ih =>
    intro v0 v1 v2 v3 M Rr h
    rw [f_X9_nthBit_4] at h
    refine sd_b_go 2 (pc2 := 7) (lv2 := [(0, .inl (v0)), (1, .inl (v1)), (2, .inl (v2)), (3, .inl (v3))]) (st2 := [.inl (9), .inl (v3)]) rfl ?_
    by_cases c1 : 9 ≤ v3
    · rw [if_pos c1] at h
      refine sd_b_ct (c := .ge) (tgt := 35) rfl (decide_eq_true c1) (by decide) ?_
      refine sd_b_go 1 (pc2 := 36) (lv2 := [(0, .inl (v0)), (1, .inl (v1)), (2, .inl (v2)), (3, .inl (v3))]) (st2 := [.inl (0)]) rfl ?_
      cases h
      exact sd_b_rt rfl rfl rfl
    · rw [if_neg c1] at h
      refine sd_b_cf (c := .ge) rfl (decide_eq_false c1) (by decide) ?_
      refine sd_b_go 6 (pc2 := 16) (lv2 := [(0, .inl (v0)), (1, .inl (v1)), (2, .inl (v2)), (3, .inl (v3))]) (st2 := [.inl (1), .inl (sd_and (sd_shr (v0) (v3)) (1))]) rfl ?_
      by_cases c2 : (sd_and (sd_shr (v0) (v3)) (1)) = 1
      · rw [if_pos c2] at h
        refine sd_b_cf (c := .ne) rfl (decide_eq_false (not_not_intro c2)) (by decide) ?_
        refine sd_b_go 2 (pc2 := 21) (lv2 := [(0, .inl (v0)), (1, .inl (v1)), (2, .inl (v2)), (3, .inl (v3))]) (st2 := [.inl (v1), .inl (v2)]) rfl ?_
        by_cases c3 : v2 = v1
        · rw [if_pos c3] at h
          refine sd_b_cf (c := .ne) rfl (decide_eq_false (not_not_intro c3)) (by decide) ?_
          refine sd_b_go 1 (pc2 := 25) (lv2 := [(0, .inl (v0)), (1, .inl (v1)), (2, .inl (v2)), (3, .inl (v3))]) (st2 := [.inl (v3)]) rfl ?_
          cases h
          exact sd_b_rt rfl rfl rfl
        · rw [if_neg c3] at h
          refine sd_b_ct (c := .ne) (tgt := 26) rfl (decide_eq_true c3) (by decide) ?_
          refine sd_b_go 1 (pc2 := 29) (lv2 := [(2, .inl (sd_w (v2 + 1))), (0, .inl (v0)), (1, .inl (v1)), (3, .inl (v3))]) (st2 := []) rfl ?_
          refine sd_b_wk [(0, .inl (v0)), (1, .inl (v1)), (2, .inl (sd_w (v2 + 1))), (3, .inl (v3))] (List.forall_mem_cons.mpr ⟨rfl, (List.forall_mem_cons.mpr ⟨rfl, (List.forall_mem_cons.mpr ⟨rfl, (List.forall_mem_cons.mpr ⟨rfl, (fun _ h0 => absurd h0 List.not_mem_nil)⟩)⟩)⟩)⟩) ?_
          exact t_X9_nthBit_29 hd (f_X9_nthBit_4 n) ih v0 v1 (sd_w (v2 + 1)) v3 M _ h
      · rw [if_neg c2] at h
        refine sd_b_ct (c := .ne) (tgt := 29) rfl (decide_eq_true c2) (by decide) ?_
        refine sd_b_wk [(0, .inl (v0)), (1, .inl (v1)), (2, .inl (v2)), (3, .inl (v3))] (List.forall_mem_cons.mpr ⟨rfl, (List.forall_mem_cons.mpr ⟨rfl, (List.forall_mem_cons.mpr ⟨rfl, (List.forall_mem_cons.mpr ⟨rfl, (fun _ h0 => absurd h0 List.not_mem_nil)⟩)⟩)⟩)⟩) ?_
        exact t_X9_nthBit_29 hd (f_X9_nthBit_4 n) ih v0 v1 v2 v3 M _ h
def f_X9_nthBit (p0 : Int) (p1 : Int) (M : sd_M) : Option (Int × sd_M) := f_X9_nthBit_4 4000 p0 p1 0 0 M
set_option maxRecDepth 4000 in
theorem t_X9_nthBit {X : Nat → List sd_V → List sd_E → sd_A → Prop} {d : Nat} (hd : 0 ≤ d) (p0 : Int) (p1 : Int) (M : sd_M) (Rr : Int × sd_M) (h : f_X9_nthBit p0 p1 M = some Rr) : sd_B X d sd_q_X9_nthBit 0 [(0, .inl (p0)), (1, .inl (p1))] [] M (some (.inl Rr.1), sd_rp Rr.2, 0, 0) := by
  unfold f_X9_nthBit at h
  refine sd_b_go 4 (pc2 := 4) (lv2 := [(3, .inl (0)), (2, .inl (0)), (0, .inl (p0)), (1, .inl (p1))]) (st2 := []) rfl ?_
  refine sd_b_wk [(0, .inl (p0)), (1, .inl (p1)), (2, .inl (0)), (3, .inl (0))] (List.forall_mem_cons.mpr ⟨rfl, (List.forall_mem_cons.mpr ⟨rfl, (List.forall_mem_cons.mpr ⟨rfl, (List.forall_mem_cons.mpr ⟨rfl, (fun _ h0 => absurd h0 List.not_mem_nil)⟩)⟩)⟩)⟩) ?_
  exact t_X9_nthBit_4 hd 4000 p0 p1 0 0 M _ h
theorem m_X9_nthBit {X : Nat → List sd_V → List sd_E → sd_A → Prop} {d : Nat} (hd : 1 ≤ d) {p0 : Int} {p1 : Int} {M : sd_M} {Rr : Int × sd_M} (h : f_X9_nthBit p0 p1 M = some Rr) : sd_Cal X d 101 [.inl (p0), .inl (p1)] (sd_rp M) (some (.inl Rr.1), sd_rp Rr.2, 0, 0) := by
  obtain ⟨d, rfl⟩ : ∃ d2, d = d2 + 1 := ⟨d - 1, by omega⟩
  exact sd_cal_of sd_i_X9_nthBit (Nat.le_of_ble_eq_true rfl) (t_X9_nthBit (by omega) p0 p1 M Rr h)
-- X9_seed
def sd_q_X9_seed : sd_MI := (yX9_seed, cX9_seed, 3, (some .int), 9, 1, sd_t_X9_seed)
set_option maxRecDepth 4000 in
theorem sd_i_X9_seed : sd_mL[108]? = some sd_q_X9_seed := rfl
def f_X9_seed (p1 : Int) (M : sd_M) : Option (Int × sd_M) := if 0 ≤ p1 then (some (M 58 4, sd_s M 58 4 p1)) else (some ((-1), M))
set_option maxRecDepth 4000 in
theorem t_X9_seed {X : Nat → List sd_V → List sd_E → sd_A → Prop} {d : Nat} (hd : 0 ≤ d) (p1 : Int) (M : sd_M) (Rr : Int × sd_M) (h : f_X9_seed p1 M = some Rr) : sd_B X d sd_q_X9_seed 0 [(0, .inr (.inr (some (0)))), (1, .inl (p1))] [] M (some (.inl Rr.1), sd_rp Rr.2, 0, 0) := by
  unfold f_X9_seed at h
  refine sd_b_go 1 (pc2 := 1) (lv2 := [(0, .inr (.inr (some (0)))), (1, .inl (p1))]) (st2 := [.inl (p1)]) rfl ?_
  by_cases c1 : 0 ≤ p1
  · rw [if_pos c1] at h
    refine sd_b_zt (c := .ge) (tgt := 6) rfl (decide_eq_true c1) (by decide) ?_
    refine sd_b_go 1 (pc2 := 7) (lv2 := [(0, .inr (.inr (some (0)))), (1, .inl (p1))]) (st2 := [.inr (.inr (some (0)))]) rfl ?_
    refine sd_b_gr (k := 5) sd_o_0 rfl rfl rfl ?_
    refine sd_b_gi (k := 4) sd_o_58 rfl rfl rfl ?_
    refine sd_b_go 2 (pc2 := 15) (lv2 := [(2, .inl (M 58 4)), (0, .inr (.inr (some (0)))), (1, .inl (p1))]) (st2 := [.inr (.inr (some (0)))]) rfl ?_
    refine sd_b_gr (k := 5) sd_o_0 rfl rfl rfl ?_
    refine sd_b_go 1 (pc2 := 19) (lv2 := [(2, .inl (M 58 4)), (0, .inr (.inr (some (0)))), (1, .inl (p1))]) (st2 := [.inl (p1), .inr (.inr (some (58)))]) rfl ?_
    refine sd_b_pi (k := 4) sd_o_58 rfl rfl rfl rfl rfl ?_
    refine sd_b_go 1 (pc2 := 23) (lv2 := [(2, .inl (M 58 4)), (0, .inr (.inr (some (0)))), (1, .inl (p1))]) (st2 := [.inl (M 58 4)]) rfl ?_
    cases h
    exact sd_b_rt rfl rfl rfl
  · rw [if_neg c1] at h
    refine sd_b_zf (c := .ge) rfl (decide_eq_false c1) (by decide) ?_
    refine sd_b_go 1 (pc2 := 5) (lv2 := [(0, .inr (.inr (some (0)))), (1, .inl (p1))]) (st2 := [.inl ((-1))]) rfl ?_
    cases h
    exact sd_b_rt rfl rfl rfl
theorem m_X9_seed {X : Nat → List sd_V → List sd_E → sd_A → Prop} {d : Nat} (hd : 1 ≤ d) {p1 : Int} {M : sd_M} {Rr : Int × sd_M} (h : f_X9_seed p1 M = some Rr) : sd_Cal X d 108 [.inr (.inr (some (0))), .inl (p1)] (sd_rp M) (some (.inl Rr.1), sd_rp Rr.2, 0, 0) := by
  obtain ⟨d, rfl⟩ : ∃ d2, d = d2 + 1 := ⟨d - 1, by omega⟩
  exact sd_cal_of sd_i_X9_seed (Nat.le_of_ble_eq_true rfl) (t_X9_seed (by omega) p1 M Rr h)
-- X9_mostAlike
def sd_q_X9_mostAlike : sd_MI := (yX9_mostAlike, cX9_mostAlike, 7, (some .int), 9, 2, sd_t_X9_mostAlike)
set_option maxRecDepth 4000 in
theorem sd_i_X9_mostAlike : sd_mL[115]? = some sd_q_X9_mostAlike := rfl
def f_X9_mostAlike_67 (k24 : Int → Int → Int → Int → Int → Int → sd_M → Option (Int × sd_M)) (k73 : Int → Int → Int → Int → Int → sd_M → Option (Int × sd_M)) (v1 : Int) (v2 : Int) (v3 : Int) (v4 : Int) (v5 : Int) (v6 : Int) (M : sd_M) : Option (Int × sd_M) := k24 v1 v2 v3 v4 v5 (sd_w (v6 + 1)) M
set_option maxRecDepth 4000 in
theorem t_X9_mostAlike_67 {X : Nat → List sd_V → List sd_E → sd_A → Prop} {d : Nat} (hd : 0 ≤ d) (k24 : Int → Int → Int → Int → Int → Int → sd_M → Option (Int × sd_M)) (k73 : Int → Int → Int → Int → Int → sd_M → Option (Int × sd_M)) (hk24 : ∀ (v1 : Int) (v2 : Int) (v3 : Int) (v4 : Int) (v5 : Int) (v6 : Int) (M : sd_M) (Rr : Int × sd_M), k24 v1 v2 v3 v4 v5 v6 M = some Rr → sd_B X d sd_q_X9_mostAlike 24 [(0, .inr (.inr (some (0)))), (1, .inl (v1)), (2, .inl (v2)), (3, .inl (v3)), (4, .inl (v4)), (5, .inl (v5)), (6, .inl (v6))] [] M (some (.inl Rr.1), sd_rp Rr.2, 0, 0)) (hk73 : ∀ (v1 : Int) (v2 : Int) (v3 : Int) (v4 : Int) (v5 : Int) (M : sd_M) (Rr : Int × sd_M), k73 v1 v2 v3 v4 v5 M = some Rr → sd_B X d sd_q_X9_mostAlike 73 [(0, .inr (.inr (some (0)))), (1, .inl (v1)), (2, .inl (v2)), (3, .inl (v3)), (4, .inl (v4)), (5, .inl (v5))] [] M (some (.inl Rr.1), sd_rp Rr.2, 0, 0)) (v1 : Int) (v2 : Int) (v3 : Int) (v4 : Int) (v5 : Int) (v6 : Int) (M : sd_M) (Rr : Int × sd_M) (h : f_X9_mostAlike_67 k24 k73 v1 v2 v3 v4 v5 v6 M = some Rr) : sd_B X d sd_q_X9_mostAlike 67 [(0, .inr (.inr (some (0)))), (1, .inl (v1)), (2, .inl (v2)), (3, .inl (v3)), (4, .inl (v4)), (5, .inl (v5)), (6, .inl (v6))] [] M (some (.inl Rr.1), sd_rp Rr.2, 0, 0) := by
  unfold f_X9_mostAlike_67 at h
  refine sd_b_go 2 (pc2 := 24) (lv2 := [(6, .inl (sd_w (v6 + 1))), (0, .inr (.inr (some (0)))), (1, .inl (v1)), (2, .inl (v2)), (3, .inl (v3)), (4, .inl (v4)), (5, .inl (v5))]) (st2 := []) rfl ?_
  refine sd_b_wk [(0, .inr (.inr (some (0)))), (1, .inl (v1)), (2, .inl (v2)), (3, .inl (v3)), (4, .inl (v4)), (5, .inl (v5)), (6, .inl (sd_w (v6 + 1)))] (List.forall_mem_cons.mpr ⟨rfl, (List.forall_mem_cons.mpr ⟨rfl, (List.forall_mem_cons.mpr ⟨rfl, (List.forall_mem_cons.mpr ⟨rfl, (List.forall_mem_cons.mpr ⟨rfl, (List.forall_mem_cons.mpr ⟨rfl, (List.forall_mem_cons.mpr ⟨rfl, (fun _ h0 => absurd h0 List.not_mem_nil)⟩)⟩)⟩)⟩)⟩)⟩)⟩) ?_
  exact hk24 v1 v2 v3 v4 v5 (sd_w (v6 + 1)) M _ h
def f_X9_mostAlike_24 (k73 : Int → Int → Int → Int → Int → sd_M → Option (Int × sd_M)) : Nat → Int → Int → Int → Int → Int → Int → sd_M → Option (Int × sd_M)
  | 0, _, _, _, _, _, _, _ => none
  | n + 1, v1, v2, v3, v4, v5, v6, M => if v2 ≤ v6 then (k73 v1 v2 v3 v4 v5 M) else (if 6 < v6 then (k73 v1 v2 v3 v4 v5 M) else (if 0 ≤ (sd_w ((sd_w (v4 * 31)) + v1)) ∧ (sd_w ((sd_w (v4 * 31)) + v1)) < 217 then (if 0 ≤ (sd_w ((sd_w (v6 * 31)) + v1)) ∧ (sd_w ((sd_w (v6 * 31)) + v1)) < 217 then (if (M 329 (sd_w ((sd_w (v4 * 31)) + v1)).toNat) = (M 329 (sd_w ((sd_w (v6 * 31)) + v1)).toNat) then (f_X9_mostAlike_67 (f_X9_mostAlike_24 k73 n) k73 v1 v2 v3 v4 (sd_w (v5 + 1)) v6 M) else (f_X9_mostAlike_67 (f_X9_mostAlike_24 k73 n) k73 v1 v2 v3 v4 v5 v6 M)) else none) else none))
set_option maxRecDepth 4000 in
theorem t_X9_mostAlike_24 {X : Nat → List sd_V → List sd_E → sd_A → Prop} {d : Nat} (hd : 0 ≤ d) (k73 : Int → Int → Int → Int → Int → sd_M → Option (Int × sd_M)) (hk73 : ∀ (v1 : Int) (v2 : Int) (v3 : Int) (v4 : Int) (v5 : Int) (M : sd_M) (Rr : Int × sd_M), k73 v1 v2 v3 v4 v5 M = some Rr → sd_B X d sd_q_X9_mostAlike 73 [(0, .inr (.inr (some (0)))), (1, .inl (v1)), (2, .inl (v2)), (3, .inl (v3)), (4, .inl (v4)), (5, .inl (v5))] [] M (some (.inl Rr.1), sd_rp Rr.2, 0, 0)) : ∀ (n : Nat) (v1 : Int) (v2 : Int) (v3 : Int) (v4 : Int) (v5 : Int) (v6 : Int) (M : sd_M) (Rr : Int × sd_M), f_X9_mostAlike_24 k73 n v1 v2 v3 v4 v5 v6 M = some Rr → sd_B X d sd_q_X9_mostAlike 24 [(0, .inr (.inr (some (0)))), (1, .inl (v1)), (2, .inl (v2)), (3, .inl (v3)), (4, .inl (v4)), (5, .inl (v5)), (6, .inl (v6))] [] M (some (.inl Rr.1), sd_rp Rr.2, 0, 0) := by
  intro n
  induction n with
  | zero => intro v1 v2 v3 v4 v5 v6 M Rr h; cases h
  | succ n ih =>
    intro v1 v2 v3 v4 v5 v6 M Rr h
    rw [f_X9_mostAlike_24] at h
    refine sd_b_go 2 (pc2 := 27) (lv2 := [(0, .inr (.inr (some (0)))), (1, .inl (v1)), (2, .inl (v2)), (3, .inl (v3)), (4, .inl (v4)), (5, .inl (v5)), (6, .inl (v6))]) (st2 := [.inl (v2), .inl (v6)]) rfl ?_
    by_cases c1 : v2 ≤ v6
    · rw [if_pos c1] at h
      refine sd_b_ct (c := .ge) (tgt := 73) rfl (decide_eq_true c1) (by decide) ?_
      refine sd_b_wk [(0, .inr (.inr (some (0)))), (1, .inl (v1)), (2, .inl (v2)), (3, .inl (v3)), (4, .inl (v4)), (5, .inl (v5))] (List.forall_mem_cons.mpr ⟨rfl, (List.forall_mem_cons.mpr ⟨rfl, (List.forall_mem_cons.mpr ⟨rfl, (List.forall_mem_cons.mpr ⟨rfl, (List.forall_mem_cons.mpr ⟨rfl, (List.forall_mem_cons.mpr ⟨rfl, (fun _ h0 => absurd h0 List.not_mem_nil)⟩)⟩)⟩)⟩)⟩)⟩) ?_
      exact hk73 v1 v2 v3 v4 v5 M _ h
    · rw [if_neg c1] at h
      refine sd_b_cf (c := .ge) rfl (decide_eq_false c1) (by decide) ?_
      refine sd_b_go 2 (pc2 := 34) (lv2 := [(0, .inr (.inr (some (0)))), (1, .inl (v1)), (2, .inl (v2)), (3, .inl (v3)), (4, .inl (v4)), (5, .inl (v5)), (6, .inl (v6))]) (st2 := [.inl (6), .inl (v6)]) rfl ?_
      by_cases c2 : 6 < v6
      · rw [if_pos c2] at h
        refine sd_b_ct (c := .gt) (tgt := 73) rfl (decide_eq_true c2) (by decide) ?_
        refine sd_b_wk [(0, .inr (.inr (some (0)))), (1, .inl (v1)), (2, .inl (v2)), (3, .inl (v3)), (4, .inl (v4)), (5, .inl (v5))] (List.forall_mem_cons.mpr ⟨rfl, (List.forall_mem_cons.mpr ⟨rfl, (List.forall_mem_cons.mpr ⟨rfl, (List.forall_mem_cons.mpr ⟨rfl, (List.forall_mem_cons.mpr ⟨rfl, (List.forall_mem_cons.mpr ⟨rfl, (fun _ h0 => absurd h0 List.not_mem_nil)⟩)⟩)⟩)⟩)⟩)⟩) ?_
        exact hk73 v1 v2 v3 v4 v5 M _ h
      · rw [if_neg c2] at h
        refine sd_b_cf (c := .gt) rfl (decide_eq_false c2) (by decide) ?_
        refine sd_b_go 1 (pc2 := 38) (lv2 := [(0, .inr (.inr (some (0)))), (1, .inl (v1)), (2, .inl (v2)), (3, .inl (v3)), (4, .inl (v4)), (5, .inl (v5)), (6, .inl (v6))]) (st2 := [.inr (.inr (some (0)))]) rfl ?_
        refine sd_b_gr (k := 16) sd_o_0 rfl rfl rfl ?_
        refine sd_b_go 5 (pc2 := 48) (lv2 := [(0, .inr (.inr (some (0)))), (1, .inl (v1)), (2, .inl (v2)), (3, .inl (v3)), (4, .inl (v4)), (5, .inl (v5)), (6, .inl (v6))]) (st2 := [.inl (sd_w ((sd_w (v4 * 31)) + v1)), .inr (.inr (some (329)))]) rfl ?_
        obtain ⟨g3, h⟩ := sd_if h
        refine sd_b_ai (sd_oa sd_o_0 (by decide) (off := 329) (List.mem_of_getElem? (i := 4) rfl)) g3 rfl ?_
        refine sd_b_go 1 (pc2 := 50) (lv2 := [(0, .inr (.inr (some (0)))), (1, .inl (v1)), (2, .inl (v2)), (3, .inl (v3)), (4, .inl (v4)), (5, .inl (v5)), (6, .inl (v6))]) (st2 := [.inr (.inr (some (0))), .inl (M 329 (sd_w ((sd_w (v4 * 31)) + v1)).toNat)]) rfl ?_
        refine sd_b_gr (k := 16) sd_o_0 rfl rfl rfl ?_
        refine sd_b_go 5 (pc2 := 60) (lv2 := [(0, .inr (.inr (some (0)))), (1, .inl (v1)), (2, .inl (v2)), (3, .inl (v3)), (4, .inl (v4)), (5, .inl (v5)), (6, .inl (v6))]) (st2 := [.inl (sd_w ((sd_w (v6 * 31)) + v1)), .inr (.inr (some (329))), .inl (M 329 (sd_w ((sd_w (v4 * 31)) + v1)).toNat)]) rfl ?_
        obtain ⟨g4, h⟩ := sd_if h
        refine sd_b_ai (sd_oa sd_o_0 (by decide) (off := 329) (List.mem_of_getElem? (i := 4) rfl)) g4 rfl ?_
        by_cases c5 : (M 329 (sd_w ((sd_w (v4 * 31)) + v1)).toNat) = (M 329 (sd_w ((sd_w (v6 * 31)) + v1)).toNat)
        · rw [if_pos c5] at h
          refine sd_b_cf (c := .ne) rfl (decide_eq_false (not_not_intro c5)) (by decide) ?_
          refine sd_b_go 1 (pc2 := 67) (lv2 := [(5, .inl (sd_w (v5 + 1))), (0, .inr (.inr (some (0)))), (1, .inl (v1)), (2, .inl (v2)), (3, .inl (v3)), (4, .inl (v4)), (6, .inl (v6))]) (st2 := []) rfl ?_
          refine sd_b_wk [(0, .inr (.inr (some (0)))), (1, .inl (v1)), (2, .inl (v2)), (3, .inl (v3)), (4, .inl (v4)), (5, .inl (sd_w (v5 + 1))), (6, .inl (v6))] (List.forall_mem_cons.mpr ⟨rfl, (List.forall_mem_cons.mpr ⟨rfl, (List.forall_mem_cons.mpr ⟨rfl, (List.forall_mem_cons.mpr ⟨rfl, (List.forall_mem_cons.mpr ⟨rfl, (List.forall_mem_cons.mpr ⟨rfl, (List.forall_mem_cons.mpr ⟨rfl, (fun _ h0 => absurd h0 List.not_mem_nil)⟩)⟩)⟩)⟩)⟩)⟩)⟩) ?_
          exact t_X9_mostAlike_67 hd (f_X9_mostAlike_24 k73 n) k73 ih hk73 v1 v2 v3 v4 (sd_w (v5 + 1)) v6 M _ h
        · rw [if_neg c5] at h
          refine sd_b_ct (c := .ne) (tgt := 67) rfl (decide_eq_true c5) (by decide) ?_
          refine sd_b_wk [(0, .inr (.inr (some (0)))), (1, .inl (v1)), (2, .inl (v2)), (3, .inl (v3)), (4, .inl (v4)), (5, .inl (v5)), (6, .inl (v6))] (List.forall_mem_cons.mpr ⟨rfl, (List.forall_mem_cons.mpr ⟨rfl, (List.forall_mem_cons.mpr ⟨rfl, (List.forall_mem_cons.mpr ⟨rfl, (List.forall_mem_cons.mpr ⟨rfl, (List.forall_mem_cons.mpr ⟨rfl, (List.forall_mem_cons.mpr ⟨rfl, (fun _ h0 => absurd h0 List.not_mem_nil)⟩)⟩)⟩)⟩)⟩)⟩)⟩) ?_
          exact t_X9_mostAlike_67 hd (f_X9_mostAlike_24 k73 n) k73 ih hk73 v1 v2 v3 v4 v5 v6 M _ h
def f_X9_mostAlike_73 (k5 : Int → Int → Int → Int → sd_M → Option (Int × sd_M)) (v1 : Int) (v2 : Int) (v3 : Int) (v4 : Int) (v5 : Int) (M : sd_M) : Option (Int × sd_M) := k5 v1 v2 (if v3 < v5 then v5 else v3) (sd_w (v4 + 1)) M
set_option maxRecDepth 4000 in
theorem t_X9_mostAlike_73 {X : Nat → List sd_V → List sd_E → sd_A → Prop} {d : Nat} (hd : 0 ≤ d) (k5 : Int → Int → Int → Int → sd_M → Option (Int × sd_M)) (hk5 : ∀ (v1 : Int) (v2 : Int) (v3 : Int) (v4 : Int) (M : sd_M) (Rr : Int × sd_M), k5 v1 v2 v3 v4 M = some Rr → sd_B X d sd_q_X9_mostAlike 5 [(0, .inr (.inr (some (0)))), (1, .inl (v1)), (2, .inl (v2)), (3, .inl (v3)), (4, .inl (v4))] [] M (some (.inl Rr.1), sd_rp Rr.2, 0, 0)) (v1 : Int) (v2 : Int) (v3 : Int) (v4 : Int) (v5 : Int) (M : sd_M) (Rr : Int × sd_M) (h : f_X9_mostAlike_73 k5 v1 v2 v3 v4 v5 M = some Rr) : sd_B X d sd_q_X9_mostAlike 73 [(0, .inr (.inr (some (0)))), (1, .inl (v1)), (2, .inl (v2)), (3, .inl (v3)), (4, .inl (v4)), (5, .inl (v5))] [] M (some (.inl Rr.1), sd_rp Rr.2, 0, 0) := by
  unfold f_X9_mostAlike_73 at h
  refine sd_b_go 2 (pc2 := 76) (lv2 := [(0, .inr (.inr (some (0)))), (1, .inl (v1)), (2, .inl (v2)), (3, .inl (v3)), (4, .inl (v4)), (5, .inl (v5))]) (st2 := [.inl (v5), .inl (v3)]) rfl ?_
  refine sd_b_go 4 (pc2 := 5) (lv2 := [(4, .inl (sd_w (v4 + 1))), (3, .inl (if v3 < v5 then v5 else v3)), (0, .inr (.inr (some (0)))), (1, .inl (v1)), (2, .inl (v2)), (5, .inl (v5))]) (st2 := []) rfl ?_
  refine sd_b_wk [(0, .inr (.inr (some (0)))), (1, .inl (v1)), (2, .inl (v2)), (3, .inl (if v3 < v5 then v5 else v3)), (4, .inl (sd_w (v4 + 1)))] (List.forall_mem_cons.mpr ⟨rfl, (List.forall_mem_cons.mpr ⟨rfl, (List.forall_mem_cons.mpr ⟨rfl, (List.forall_mem_cons.mpr ⟨rfl, (List.forall_mem_cons.mpr ⟨rfl, (fun _ h0 => absurd h0 List.not_mem_nil)⟩)⟩)⟩)⟩)⟩) ?_
  exact hk5 v1 v2 (if v3 < v5 then v5 else v3) (sd_w (v4 + 1)) M _ h
def f_X9_mostAlike_5 : Nat → Int → Int → Int → Int → sd_M → Option (Int × sd_M)
  | 0, _, _, _, _, _ => none
  | n + 1, v1, v2, v3, v4, M => if v2 ≤ v4 then (some (v3, M)) else (if 6 < v4 then (some (v3, M)) else (f_X9_mostAlike_24 (f_X9_mostAlike_73 (f_X9_mostAlike_5 n)) 4000 v1 v2 v3 v4 0 0 M))
set_option maxRecDepth 4000 in
theorem t_X9_mostAlike_5 {X : Nat → List sd_V → List sd_E → sd_A → Prop} {d : Nat} (hd : 0 ≤ d) : ∀ (n : Nat) (v1 : Int) (v2 : Int) (v3 : Int) (v4 : Int) (M : sd_M) (Rr : Int × sd_M), f_X9_mostAlike_5 n v1 v2 v3 v4 M = some Rr → sd_B X d sd_q_X9_mostAlike 5 [(0, .inr (.inr (some (0)))), (1, .inl (v1)), (2, .inl (v2)), (3, .inl (v3)), (4, .inl (v4))] [] M (some (.inl Rr.1), sd_rp Rr.2, 0, 0) := by
  intro n
  induction n with
  | zero => intro v1 v2 v3 v4 M Rr h; cases h
  | succ n ih =>
    intro v1 v2 v3 v4 M Rr h
    rw [f_X9_mostAlike_5] at h
    refine sd_b_go 2 (pc2 := 8) (lv2 := [(0, .inr (.inr (some (0)))), (1, .inl (v1)), (2, .inl (v2)), (3, .inl (v3)), (4, .inl (v4))]) (st2 := [.inl (v2), .inl (v4)]) rfl ?_
    by_cases c1 : v2 ≤ v4
    · rw [if_pos c1] at h
      refine sd_b_ct (c := .ge) (tgt := 86) rfl (decide_eq_true c1) (by decide) ?_
      refine sd_b_go 1 (pc2 := 87) (lv2 := [(0, .inr (.inr (some (0)))), (1, .inl (v1)), (2, .inl (v2)), (3, .inl (v3)), (4, .inl (v4))]) (st2 := [.inl (v3)]) rfl ?_
      cases h
      exact sd_b_rt rfl rfl rfl
    · rw [if_neg c1] at h
      refine sd_b_cf (c := .ge) rfl (decide_eq_false c1) (by decide) ?_
      refine sd_b_go 2 (pc2 := 15) (lv2 := [(0, .inr (.inr (some (0)))), (1, .inl (v1)), (2, .inl (v2)), (3, .inl (v3)), (4, .inl (v4))]) (st2 := [.inl (6), .inl (v4)]) rfl ?_
      by_cases c2 : 6 < v4
      · rw [if_pos c2] at h
        refine sd_b_ct (c := .gt) (tgt := 86) rfl (decide_eq_true c2) (by decide) ?_
        refine sd_b_go 1 (pc2 := 87) (lv2 := [(0, .inr (.inr (some (0)))), (1, .inl (v1)), (2, .inl (v2)), (3, .inl (v3)), (4, .inl (v4))]) (st2 := [.inl (v3)]) rfl ?_
        cases h
        exact sd_b_rt rfl rfl rfl
      · rw [if_neg c2] at h
        refine sd_b_cf (c := .gt) rfl (decide_eq_false c2) (by decide) ?_
        refine sd_b_go 4 (pc2 := 24) (lv2 := [(6, .inl (0)), (5, .inl (0)), (0, .inr (.inr (some (0)))), (1, .inl (v1)), (2, .inl (v2)), (3, .inl (v3)), (4, .inl (v4))]) (st2 := []) rfl ?_
        refine sd_b_wk [(0, .inr (.inr (some (0)))), (1, .inl (v1)), (2, .inl (v2)), (3, .inl (v3)), (4, .inl (v4)), (5, .inl (0)), (6, .inl (0))] (List.forall_mem_cons.mpr ⟨rfl, (List.forall_mem_cons.mpr ⟨rfl, (List.forall_mem_cons.mpr ⟨rfl, (List.forall_mem_cons.mpr ⟨rfl, (List.forall_mem_cons.mpr ⟨rfl, (List.forall_mem_cons.mpr ⟨rfl, (List.forall_mem_cons.mpr ⟨rfl, (fun _ h0 => absurd h0 List.not_mem_nil)⟩)⟩)⟩)⟩)⟩)⟩)⟩) ?_
        exact t_X9_mostAlike_24 hd (f_X9_mostAlike_73 (f_X9_mostAlike_5 n)) (t_X9_mostAlike_73 hd (f_X9_mostAlike_5 n) ih) 4000 v1 v2 v3 v4 0 0 M _ h
def f_X9_mostAlike (p1 : Int) (p2 : Int) (M : sd_M) : Option (Int × sd_M) := f_X9_mostAlike_5 4000 p1 p2 0 0 M
set_option maxRecDepth 4000 in
theorem t_X9_mostAlike {X : Nat → List sd_V → List sd_E → sd_A → Prop} {d : Nat} (hd : 0 ≤ d) (p1 : Int) (p2 : Int) (M : sd_M) (Rr : Int × sd_M) (h : f_X9_mostAlike p1 p2 M = some Rr) : sd_B X d sd_q_X9_mostAlike 0 [(0, .inr (.inr (some (0)))), (1, .inl (p1)), (2, .inl (p2))] [] M (some (.inl Rr.1), sd_rp Rr.2, 0, 0) := by
  unfold f_X9_mostAlike at h
  refine sd_b_go 4 (pc2 := 5) (lv2 := [(4, .inl (0)), (3, .inl (0)), (0, .inr (.inr (some (0)))), (1, .inl (p1)), (2, .inl (p2))]) (st2 := []) rfl ?_
  refine sd_b_wk [(0, .inr (.inr (some (0)))), (1, .inl (p1)), (2, .inl (p2)), (3, .inl (0)), (4, .inl (0))] (List.forall_mem_cons.mpr ⟨rfl, (List.forall_mem_cons.mpr ⟨rfl, (List.forall_mem_cons.mpr ⟨rfl, (List.forall_mem_cons.mpr ⟨rfl, (List.forall_mem_cons.mpr ⟨rfl, (fun _ h0 => absurd h0 List.not_mem_nil)⟩)⟩)⟩)⟩)⟩) ?_
  exact t_X9_mostAlike_5 hd 4000 p1 p2 0 0 M _ h
theorem m_X9_mostAlike {X : Nat → List sd_V → List sd_E → sd_A → Prop} {d : Nat} (hd : 1 ≤ d) {p1 : Int} {p2 : Int} {M : sd_M} {Rr : Int × sd_M} (h : f_X9_mostAlike p1 p2 M = some Rr) : sd_Cal X d 115 [.inr (.inr (some (0))), .inl (p1), .inl (p2)] (sd_rp M) (some (.inl Rr.1), sd_rp Rr.2, 0, 0) := by
  obtain ⟨d, rfl⟩ : ∃ d2, d = d2 + 1 := ⟨d - 1, by omega⟩
  exact sd_cal_of sd_i_X9_mostAlike (Nat.le_of_ble_eq_true rfl) (t_X9_mostAlike (by omega) p1 p2 M Rr h)
-- X9_isRest
def sd_q_X9_isRest : sd_MI := (yX9_isRest, cX9_isRest, 4, (some .boolean), 9, 2, sd_t_X9_isRest)
set_option maxRecDepth 4000 in
theorem sd_i_X9_isRest : sd_mL[119]? = some sd_q_X9_isRest := rfl
def f_X9_isRest_2 : Nat → Int → Int → Int → sd_M → Option (Int × sd_M)
  | 0, _, _, _, _ => none
  | n + 1, v1, v2, v3, M => if 3 ≤ v3 then (some (1, M)) else (if 0 ≤ (sd_w (2 * (sd_w ((sd_w (v3 * 3)) + v2)))) ∧ (sd_w (2 * (sd_w ((sd_w (v3 * 3)) + v2)))) < 18 then (if 0 ≤ (sd_w (2 * (sd_w ((sd_w (v1 * 3)) + v2)))) ∧ (sd_w (2 * (sd_w ((sd_w (v1 * 3)) + v2)))) < 18 then (if (M 330 (sd_w (2 * (sd_w ((sd_w (v1 * 3)) + v2)))).toNat) < (M 330 (sd_w (2 * (sd_w ((sd_w (v3 * 3)) + v2)))).toNat) then (some (0, M)) else (if 0 ≤ (sd_w ((sd_w (2 * (sd_w ((sd_w (v1 * 3)) + v3)))) + 1)) ∧ (sd_w ((sd_w (2 * (sd_w ((sd_w (v1 * 3)) + v3)))) + 1)) < 18 then (if 0 ≤ (sd_w ((sd_w (2 * (sd_w ((sd_w (v1 * 3)) + v2)))) + 1)) ∧ (sd_w ((sd_w (2 * (sd_w ((sd_w (v1 * 3)) + v2)))) + 1)) < 18 then (if (M 330 (sd_w ((sd_w (2 * (sd_w ((sd_w (v1 * 3)) + v3)))) + 1)).toNat) ≤ (M 330 (sd_w ((sd_w (2 * (sd_w ((sd_w (v1 * 3)) + v2)))) + 1)).toNat) then (f_X9_isRest_2 n v1 v2 (sd_w (v3 + 1)) M) else (some (0, M))) else none) else none)) else none) else none)
set_option maxRecDepth 4000 in
theorem t_X9_isRest_2 {X : Nat → List sd_V → List sd_E → sd_A → Prop} {d : Nat} (hd : 0 ≤ d) : ∀ (n : Nat) (v1 : Int) (v2 : Int) (v3 : Int) (M : sd_M) (Rr : Int × sd_M), f_X9_isRest_2 n v1 v2 v3 M = some Rr → sd_B X d sd_q_X9_isRest 2 [(0, .inr (.inr (some (0)))), (1, .inl (v1)), (2, .inl (v2)), (3, .inl (v3))] [] M (some (.inl Rr.1), sd_rp Rr.2, 0, 0) := by
  intro n
  induction n with
  | zero => intro v1 v2 v3 M Rr h; cases h
  | succ n ih =>
    intro v1 v2 v3 M Rr h
    rw [f_X9_isRest_2] at h
    refine sd_b_go 2 (pc2 := 4) (lv2 := [(0, .inr (.inr (some (0)))), (1, .inl (v1)), (2, .inl (v2)), (3, .inl (v3))]) (st2 := [.inl (3), .inl (v3)]) rfl ?_
    by_cases c1 : 3 ≤ v3
    · rw [if_pos c1] at h
      refine sd_b_ct (c := .ge) (tgt := 73) rfl (decide_eq_true c1) (by decide) ?_
      refine sd_b_go 1 (pc2 := 74) (lv2 := [(0, .inr (.inr (some (0)))), (1, .inl (v1)), (2, .inl (v2)), (3, .inl (v3))]) (st2 := [.inl (1)]) rfl ?_
      cases h
      exact sd_b_rt rfl rfl rfl
    · rw [if_neg c1] at h
      refine sd_b_cf (c := .ge) rfl (decide_eq_false c1) (by decide) ?_
      refine sd_b_go 1 (pc2 := 8) (lv2 := [(0, .inr (.inr (some (0)))), (1, .inl (v1)), (2, .inl (v2)), (3, .inl (v3))]) (st2 := [.inr (.inr (some (0)))]) rfl ?_
      refine sd_b_gr (k := 17) sd_o_0 rfl rfl rfl ?_
      refine sd_b_go 7 (pc2 := 18) (lv2 := [(0, .inr (.inr (some (0)))), (1, .inl (v1)), (2, .inl (v2)), (3, .inl (v3))]) (st2 := [.inl (sd_w (2 * (sd_w ((sd_w (v3 * 3)) + v2)))), .inr (.inr (some (330)))]) rfl ?_
      obtain ⟨g2, h⟩ := sd_if h
      refine sd_b_ai (sd_oa sd_o_0 (by decide) (off := 330) (List.mem_of_getElem? (i := 5) rfl)) g2 rfl ?_
      refine sd_b_go 1 (pc2 := 20) (lv2 := [(0, .inr (.inr (some (0)))), (1, .inl (v1)), (2, .inl (v2)), (3, .inl (v3))]) (st2 := [.inr (.inr (some (0))), .inl (M 330 (sd_w (2 * (sd_w ((sd_w (v3 * 3)) + v2)))).toNat)]) rfl ?_
      refine sd_b_gr (k := 17) sd_o_0 rfl rfl rfl ?_
      refine sd_b_go 7 (pc2 := 30) (lv2 := [(0, .inr (.inr (some (0)))), (1, .inl (v1)), (2, .inl (v2)), (3, .inl (v3))]) (st2 := [.inl (sd_w (2 * (sd_w ((sd_w (v1 * 3)) + v2)))), .inr (.inr (some (330))), .inl (M 330 (sd_w (2 * (sd_w ((sd_w (v3 * 3)) + v2)))).toNat)]) rfl ?_
      obtain ⟨g3, h⟩ := sd_if h
      refine sd_b_ai (sd_oa sd_o_0 (by decide) (off := 330) (List.mem_of_getElem? (i := 5) rfl)) g3 rfl ?_
      by_cases c4 : (M 330 (sd_w (2 * (sd_w ((sd_w (v1 * 3)) + v2)))).toNat) < (M 330 (sd_w (2 * (sd_w ((sd_w (v3 * 3)) + v2)))).toNat)
      · rw [if_pos c4] at h
        refine sd_b_ct (c := .gt) (tgt := 65) rfl (decide_eq_true c4) (by decide) ?_
        refine sd_b_go 1 (pc2 := 66) (lv2 := [(0, .inr (.inr (some (0)))), (1, .inl (v1)), (2, .inl (v2)), (3, .inl (v3))]) (st2 := [.inl (0)]) rfl ?_
        cases h
        exact sd_b_rt rfl rfl rfl
      · rw [if_neg c4] at h
        refine sd_b_cf (c := .gt) rfl (decide_eq_false c4) (by decide) ?_
        refine sd_b_go 1 (pc2 := 35) (lv2 := [(0, .inr (.inr (some (0)))), (1, .inl (v1)), (2, .inl (v2)), (3, .inl (v3))]) (st2 := [.inr (.inr (some (0)))]) rfl ?_
        refine sd_b_gr (k := 17) sd_o_0 rfl rfl rfl ?_
        refine sd_b_go 9 (pc2 := 47) (lv2 := [(0, .inr (.inr (some (0)))), (1, .inl (v1)), (2, .inl (v2)), (3, .inl (v3))]) (st2 := [.inl (sd_w ((sd_w (2 * (sd_w ((sd_w (v1 * 3)) + v3)))) + 1)), .inr (.inr (some (330)))]) rfl ?_
        obtain ⟨g5, h⟩ := sd_if h
        refine sd_b_ai (sd_oa sd_o_0 (by decide) (off := 330) (List.mem_of_getElem? (i := 5) rfl)) g5 rfl ?_
        refine sd_b_go 1 (pc2 := 49) (lv2 := [(0, .inr (.inr (some (0)))), (1, .inl (v1)), (2, .inl (v2)), (3, .inl (v3))]) (st2 := [.inr (.inr (some (0))), .inl (M 330 (sd_w ((sd_w (2 * (sd_w ((sd_w (v1 * 3)) + v3)))) + 1)).toNat)]) rfl ?_
        refine sd_b_gr (k := 17) sd_o_0 rfl rfl rfl ?_
        refine sd_b_go 9 (pc2 := 61) (lv2 := [(0, .inr (.inr (some (0)))), (1, .inl (v1)), (2, .inl (v2)), (3, .inl (v3))]) (st2 := [.inl (sd_w ((sd_w (2 * (sd_w ((sd_w (v1 * 3)) + v2)))) + 1)), .inr (.inr (some (330))), .inl (M 330 (sd_w ((sd_w (2 * (sd_w ((sd_w (v1 * 3)) + v3)))) + 1)).toNat)]) rfl ?_
        obtain ⟨g6, h⟩ := sd_if h
        refine sd_b_ai (sd_oa sd_o_0 (by decide) (off := 330) (List.mem_of_getElem? (i := 5) rfl)) g6 rfl ?_
        by_cases c7 : (M 330 (sd_w ((sd_w (2 * (sd_w ((sd_w (v1 * 3)) + v3)))) + 1)).toNat) ≤ (M 330 (sd_w ((sd_w (2 * (sd_w ((sd_w (v1 * 3)) + v2)))) + 1)).toNat)
        · rw [if_pos c7] at h
          refine sd_b_ct (c := .le) (tgt := 67) rfl (decide_eq_true c7) (by decide) ?_
          refine sd_b_go 2 (pc2 := 2) (lv2 := [(3, .inl (sd_w (v3 + 1))), (0, .inr (.inr (some (0)))), (1, .inl (v1)), (2, .inl (v2))]) (st2 := []) rfl ?_
          refine sd_b_wk [(0, .inr (.inr (some (0)))), (1, .inl (v1)), (2, .inl (v2)), (3, .inl (sd_w (v3 + 1)))] (List.forall_mem_cons.mpr ⟨rfl, (List.forall_mem_cons.mpr ⟨rfl, (List.forall_mem_cons.mpr ⟨rfl, (List.forall_mem_cons.mpr ⟨rfl, (fun _ h0 => absurd h0 List.not_mem_nil)⟩)⟩)⟩)⟩) ?_
          exact ih v1 v2 (sd_w (v3 + 1)) M _ h
        · rw [if_neg c7] at h
          refine sd_b_cf (c := .le) rfl (decide_eq_false c7) (by decide) ?_
          refine sd_b_go 1 (pc2 := 66) (lv2 := [(0, .inr (.inr (some (0)))), (1, .inl (v1)), (2, .inl (v2)), (3, .inl (v3))]) (st2 := [.inl (0)]) rfl ?_
          cases h
          exact sd_b_rt rfl rfl rfl
def f_X9_isRest (p1 : Int) (p2 : Int) (M : sd_M) : Option (Int × sd_M) := f_X9_isRest_2 4000 p1 p2 0 M
set_option maxRecDepth 4000 in
theorem t_X9_isRest {X : Nat → List sd_V → List sd_E → sd_A → Prop} {d : Nat} (hd : 0 ≤ d) (p1 : Int) (p2 : Int) (M : sd_M) (Rr : Int × sd_M) (h : f_X9_isRest p1 p2 M = some Rr) : sd_B X d sd_q_X9_isRest 0 [(0, .inr (.inr (some (0)))), (1, .inl (p1)), (2, .inl (p2))] [] M (some (.inl Rr.1), sd_rp Rr.2, 0, 0) := by
  unfold f_X9_isRest at h
  refine sd_b_go 2 (pc2 := 2) (lv2 := [(3, .inl (0)), (0, .inr (.inr (some (0)))), (1, .inl (p1)), (2, .inl (p2))]) (st2 := []) rfl ?_
  refine sd_b_wk [(0, .inr (.inr (some (0)))), (1, .inl (p1)), (2, .inl (p2)), (3, .inl (0))] (List.forall_mem_cons.mpr ⟨rfl, (List.forall_mem_cons.mpr ⟨rfl, (List.forall_mem_cons.mpr ⟨rfl, (List.forall_mem_cons.mpr ⟨rfl, (fun _ h0 => absurd h0 List.not_mem_nil)⟩)⟩)⟩)⟩) ?_
  exact t_X9_isRest_2 hd 4000 p1 p2 0 M _ h
theorem m_X9_isRest {X : Nat → List sd_V → List sd_E → sd_A → Prop} {d : Nat} (hd : 1 ≤ d) {p1 : Int} {p2 : Int} {M : sd_M} {Rr : Int × sd_M} (h : f_X9_isRest p1 p2 M = some Rr) : sd_Cal X d 119 [.inr (.inr (some (0))), .inl (p1), .inl (p2)] (sd_rp M) (some (.inl Rr.1), sd_rp Rr.2, 0, 0) := by
  obtain ⟨d, rfl⟩ : ∃ d2, d = d2 + 1 := ⟨d - 1, by omega⟩
  exact sd_cal_of sd_i_X9_isRest (Nat.le_of_ble_eq_true rfl) (t_X9_isRest (by omega) p1 p2 M Rr h)
-- X9_isOffer
def sd_q_X9_isOffer : sd_MI := (yX9_isOffer, cX9_isOffer, 2, (some .boolean), 9, 1, sd_t_X9_isOffer)
set_option maxRecDepth 4000 in
theorem sd_i_X9_isOffer : sd_mL[123]? = some sd_q_X9_isOffer := rfl
def f_X9_isOffer (p1 : Int) (M : sd_M) : Option (Int × sd_M) := if p1 < 0 then (some (0, M)) else (if (M 59 2) ≤ p1 then (some (0, M)) else (some (1, M)))
set_option maxRecDepth 4000 in
theorem t_X9_isOffer {X : Nat → List sd_V → List sd_E → sd_A → Prop} {d : Nat} (hd : 0 ≤ d) (p1 : Int) (M : sd_M) (Rr : Int × sd_M) (h : f_X9_isOffer p1 M = some Rr) : sd_B X d sd_q_X9_isOffer 0 [(0, .inr (.inr (some (0)))), (1, .inl (p1))] [] M (some (.inl Rr.1), sd_rp Rr.2, 0, 0) := by
  unfold f_X9_isOffer at h
  refine sd_b_go 1 (pc2 := 1) (lv2 := [(0, .inr (.inr (some (0)))), (1, .inl (p1))]) (st2 := [.inl (p1)]) rfl ?_
  by_cases c1 : p1 < 0
  · rw [if_pos c1] at h
    refine sd_b_zt (c := .lt) (tgt := 22) rfl (decide_eq_true c1) (by decide) ?_
    refine sd_b_go 1 (pc2 := 23) (lv2 := [(0, .inr (.inr (some (0)))), (1, .inl (p1))]) (st2 := [.inl (0)]) rfl ?_
    cases h
    exact sd_b_rt rfl rfl rfl
  · rw [if_neg c1] at h
    refine sd_b_zf (c := .lt) rfl (decide_eq_false c1) (by decide) ?_
    refine sd_b_go 2 (pc2 := 6) (lv2 := [(0, .inr (.inr (some (0)))), (1, .inl (p1))]) (st2 := [.inr (.inr (some (0))), .inl (p1)]) rfl ?_
    refine sd_b_gr (k := 5) sd_o_0 rfl rfl rfl ?_
    refine sd_b_gr (k := 0) sd_o_58 rfl rfl rfl ?_
    refine sd_b_gi (k := 2) sd_o_59 rfl rfl rfl ?_
    by_cases c2 : (M 59 2) ≤ p1
    · rw [if_pos c2] at h
      refine sd_b_ct (c := .ge) (tgt := 22) rfl (decide_eq_true c2) (by decide) ?_
      refine sd_b_go 1 (pc2 := 23) (lv2 := [(0, .inr (.inr (some (0)))), (1, .inl (p1))]) (st2 := [.inl (0)]) rfl ?_
      cases h
      exact sd_b_rt rfl rfl rfl
    · rw [if_neg c2] at h
      refine sd_b_cf (c := .ge) rfl (decide_eq_false c2) (by decide) ?_
      refine sd_b_go 2 (pc2 := 23) (lv2 := [(0, .inr (.inr (some (0)))), (1, .inl (p1))]) (st2 := [.inl (1)]) rfl ?_
      cases h
      exact sd_b_rt rfl rfl rfl
theorem m_X9_isOffer {X : Nat → List sd_V → List sd_E → sd_A → Prop} {d : Nat} (hd : 1 ≤ d) {p1 : Int} {M : sd_M} {Rr : Int × sd_M} (h : f_X9_isOffer p1 M = some Rr) : sd_Cal X d 123 [.inr (.inr (some (0))), .inl (p1)] (sd_rp M) (some (.inl Rr.1), sd_rp Rr.2, 0, 0) := by
  obtain ⟨d, rfl⟩ : ∃ d2, d = d2 + 1 := ⟨d - 1, by omega⟩
  exact sd_cal_of sd_i_X9_isOffer (Nat.le_of_ble_eq_true rfl) (t_X9_isOffer (by omega) p1 M Rr h)
-- X9_isLine
def sd_q_X9_isLine : sd_MI := (yX9_isLine, cX9_isLine, 2, (some .boolean), 9, 1, sd_t_X9_isLine)
set_option maxRecDepth 4000 in
theorem sd_i_X9_isLine : sd_mL[124]? = some sd_q_X9_isLine := rfl
def f_X9_isLine (p1 : Int) (M : sd_M) : Option (Int × sd_M) := (f_X9_isOffer p1 M).bind fun r1 => if r1.1 = 0 then (some (0, r1.2)) else ((f_X0_isOn 66 p1 r1.2).bind fun r3 => if r3.1 = 0 then (some (0, r3.2)) else (some (1, r3.2)))
set_option maxRecDepth 4000 in
theorem t_X9_isLine {X : Nat → List sd_V → List sd_E → sd_A → Prop} {d : Nat} (hd : 1 ≤ d) (p1 : Int) (M : sd_M) (Rr : Int × sd_M) (h : f_X9_isLine p1 M = some Rr) : sd_B X d sd_q_X9_isLine 0 [(0, .inr (.inr (some (0)))), (1, .inl (p1))] [] M (some (.inl Rr.1), sd_rp Rr.2, 0, 0) := by
  unfold f_X9_isLine at h
  refine sd_b_go 2 (pc2 := 2) (lv2 := [(0, .inr (.inr (some (0)))), (1, .inl (p1))]) (st2 := [.inl (p1), .inr (.inr (some (0)))]) rfl ?_
  obtain ⟨r1, e1, h⟩ := sd_bnd h
  refine sd_b_call [.inr (.inr (some (0))), .inl (p1)] [] rfl rfl sd_i_X9_isOffer rfl rfl (Nat.le_of_ble_eq_true rfl) (sd_rc_v sd_o_0) (m_X9_isOffer (by omega) e1) ?_
  by_cases c2 : r1.1 = 0
  · rw [if_pos c2] at h
    refine sd_b_zt (c := .eq) (tgt := 26) rfl (decide_eq_true c2) (by decide) ?_
    refine sd_b_go 1 (pc2 := 27) (lv2 := [(0, .inr (.inr (some (0)))), (1, .inl (p1))]) (st2 := [.inl (0)]) rfl ?_
    cases h
    exact sd_b_rt rfl rfl rfl
  · rw [if_neg c2] at h
    refine sd_b_zf (c := .eq) rfl (decide_eq_false c2) (by decide) ?_
    refine sd_b_go 1 (pc2 := 9) (lv2 := [(0, .inr (.inr (some (0)))), (1, .inl (p1))]) (st2 := [.inr (.inr (some (0)))]) rfl ?_
    refine sd_b_gr (k := 5) sd_o_0 rfl rfl rfl ?_
    refine sd_b_gr (k := 1) sd_o_58 rfl rfl rfl ?_
    refine sd_b_go 1 (pc2 := 16) (lv2 := [(0, .inr (.inr (some (0)))), (1, .inl (p1))]) (st2 := [.inl (p1), .inr (.inr (some (66)))]) rfl ?_
    obtain ⟨r3, e3, h⟩ := sd_bnd h
    refine sd_b_call [.inr (.inr (some (66))), .inl (p1)] [] rfl rfl sd_i_X0_isOn rfl rfl (Nat.le_of_ble_eq_true rfl) (sd_rc_v sd_o_66) (m_X0_isOn (by omega) sd_o_66 e3) ?_
    by_cases c4 : r3.1 = 0
    · rw [if_pos c4] at h
      refine sd_b_zt (c := .eq) (tgt := 26) rfl (decide_eq_true c4) (by decide) ?_
      refine sd_b_go 1 (pc2 := 27) (lv2 := [(0, .inr (.inr (some (0)))), (1, .inl (p1))]) (st2 := [.inl (0)]) rfl ?_
      cases h
      exact sd_b_rt rfl rfl rfl
    · rw [if_neg c4] at h
      refine sd_b_zf (c := .eq) rfl (decide_eq_false c4) (by decide) ?_
      refine sd_b_go 2 (pc2 := 27) (lv2 := [(0, .inr (.inr (some (0)))), (1, .inl (p1))]) (st2 := [.inl (1)]) rfl ?_
      cases h
      exact sd_b_rt rfl rfl rfl
theorem m_X9_isLine {X : Nat → List sd_V → List sd_E → sd_A → Prop} {d : Nat} (hd : 2 ≤ d) {p1 : Int} {M : sd_M} {Rr : Int × sd_M} (h : f_X9_isLine p1 M = some Rr) : sd_Cal X d 124 [.inr (.inr (some (0))), .inl (p1)] (sd_rp M) (some (.inl Rr.1), sd_rp Rr.2, 0, 0) := by
  obtain ⟨d, rfl⟩ : ∃ d2, d = d2 + 1 := ⟨d - 1, by omega⟩
  exact sd_cal_of sd_i_X9_isLine (Nat.le_of_ble_eq_true rfl) (t_X9_isLine (by omega) p1 M Rr h)
-- X9_isNumber
def sd_q_X9_isNumber : sd_MI := (yX9_isNumber, cX9_isNumber, 1, (some .boolean), 9, 1, sd_t_X9_isNumber)
set_option maxRecDepth 4000 in
theorem sd_i_X9_isNumber : sd_mL[125]? = some sd_q_X9_isNumber := rfl
def f_X9_isNumber (p0 : Int) (M : sd_M) : Option (Int × sd_M) := if p0 < 1 then (some (0, M)) else (if 999 < p0 then (some (0, M)) else (some (1, M)))
set_option maxRecDepth 4000 in
theorem t_X9_isNumber {X : Nat → List sd_V → List sd_E → sd_A → Prop} {d : Nat} (hd : 0 ≤ d) (p0 : Int) (M : sd_M) (Rr : Int × sd_M) (h : f_X9_isNumber p0 M = some Rr) : sd_B X d sd_q_X9_isNumber 0 [(0, .inl (p0))] [] M (some (.inl Rr.1), sd_rp Rr.2, 0, 0) := by
  unfold f_X9_isNumber at h
  refine sd_b_go 2 (pc2 := 2) (lv2 := [(0, .inl (p0))]) (st2 := [.inl (1), .inl (p0)]) rfl ?_
  by_cases c1 : p0 < 1
  · rw [if_pos c1] at h
    refine sd_b_ct (c := .lt) (tgt := 16) rfl (decide_eq_true c1) (by decide) ?_
    refine sd_b_go 1 (pc2 := 17) (lv2 := [(0, .inl (p0))]) (st2 := [.inl (0)]) rfl ?_
    cases h
    exact sd_b_rt rfl rfl rfl
  · rw [if_neg c1] at h
    refine sd_b_cf (c := .lt) rfl (decide_eq_false c1) (by decide) ?_
    refine sd_b_go 2 (pc2 := 9) (lv2 := [(0, .inl (p0))]) (st2 := [.inl (999), .inl (p0)]) rfl ?_
    by_cases c2 : 999 < p0
    · rw [if_pos c2] at h
      refine sd_b_ct (c := .gt) (tgt := 16) rfl (decide_eq_true c2) (by decide) ?_
      refine sd_b_go 1 (pc2 := 17) (lv2 := [(0, .inl (p0))]) (st2 := [.inl (0)]) rfl ?_
      cases h
      exact sd_b_rt rfl rfl rfl
    · rw [if_neg c2] at h
      refine sd_b_cf (c := .gt) rfl (decide_eq_false c2) (by decide) ?_
      refine sd_b_go 2 (pc2 := 17) (lv2 := [(0, .inl (p0))]) (st2 := [.inl (1)]) rfl ?_
      cases h
      exact sd_b_rt rfl rfl rfl
theorem m_X9_isNumber {X : Nat → List sd_V → List sd_E → sd_A → Prop} {d : Nat} (hd : 1 ≤ d) {p0 : Int} {M : sd_M} {Rr : Int × sd_M} (h : f_X9_isNumber p0 M = some Rr) : sd_Cal X d 125 [.inl (p0)] (sd_rp M) (some (.inl Rr.1), sd_rp Rr.2, 0, 0) := by
  obtain ⟨d, rfl⟩ : ∃ d2, d = d2 + 1 := ⟨d - 1, by omega⟩
  exact sd_cal_of sd_i_X9_isNumber (Nat.le_of_ble_eq_true rfl) (t_X9_isNumber (by omega) p0 M Rr h)
-- X9_ruleAt
def sd_q_X9_ruleAt : sd_MI := (yX9_ruleAt, cX9_ruleAt, 2, (some (.object "SlipDesk$Rule")), 9, 1, sd_t_X9_ruleAt)
set_option maxRecDepth 4000 in
theorem sd_i_X9_ruleAt : sd_mL[126]? = some sd_q_X9_ruleAt := rfl
def f_X9_ruleAt (p1 : Int) (M : sd_M) : Option (Option Nat × sd_M) := if p1 < 0 then (some (none, M)) else (if (M 0 4) ≤ p1 then (some (none, M)) else (if 6 ≤ p1 then (some (none, M)) else (if 0 ≤ p1 ∧ p1 < 6 then (some (some (16 + 7 * p1.toNat), M)) else none)))
set_option maxRecDepth 4000 in
theorem t_X9_ruleAt {X : Nat → List sd_V → List sd_E → sd_A → Prop} {d : Nat} (hd : 0 ≤ d) (p1 : Int) (M : sd_M) (Rr : Option Nat × sd_M) (h : f_X9_ruleAt p1 M = some Rr) : sd_B X d sd_q_X9_ruleAt 0 [(0, .inr (.inr (some (0)))), (1, .inl (p1))] [] M (some (.inr (.inr Rr.1)), sd_rp Rr.2, 0, 0) := by
  unfold f_X9_ruleAt at h
  refine sd_b_go 1 (pc2 := 1) (lv2 := [(0, .inr (.inr (some (0)))), (1, .inl (p1))]) (st2 := [.inl (p1)]) rfl ?_
  by_cases c1 : p1 < 0
  · rw [if_pos c1] at h
    refine sd_b_zt (c := .lt) (tgt := 27) rfl (decide_eq_true c1) (by decide) ?_
    refine sd_b_go 1 (pc2 := 28) (lv2 := [(0, .inr (.inr (some (0)))), (1, .inl (p1))]) (st2 := [.inr (.inr none)]) rfl ?_
    cases h
    exact sd_b_rt rfl rfl rfl
  · rw [if_neg c1] at h
    refine sd_b_zf (c := .lt) rfl (decide_eq_false c1) (by decide) ?_
    refine sd_b_go 2 (pc2 := 6) (lv2 := [(0, .inr (.inr (some (0)))), (1, .inl (p1))]) (st2 := [.inr (.inr (some (0))), .inl (p1)]) rfl ?_
    refine sd_b_gi (k := 4) sd_o_0 rfl rfl rfl ?_
    by_cases c2 : (M 0 4) ≤ p1
    · rw [if_pos c2] at h
      refine sd_b_ct (c := .ge) (tgt := 27) rfl (decide_eq_true c2) (by decide) ?_
      refine sd_b_go 1 (pc2 := 28) (lv2 := [(0, .inr (.inr (some (0)))), (1, .inl (p1))]) (st2 := [.inr (.inr none)]) rfl ?_
      cases h
      exact sd_b_rt rfl rfl rfl
    · rw [if_neg c2] at h
      refine sd_b_cf (c := .ge) rfl (decide_eq_false c2) (by decide) ?_
      refine sd_b_go 2 (pc2 := 15) (lv2 := [(0, .inr (.inr (some (0)))), (1, .inl (p1))]) (st2 := [.inl (6), .inl (p1)]) rfl ?_
      by_cases c3 : 6 ≤ p1
      · rw [if_pos c3] at h
        refine sd_b_ct (c := .ge) (tgt := 27) rfl (decide_eq_true c3) (by decide) ?_
        refine sd_b_go 1 (pc2 := 28) (lv2 := [(0, .inr (.inr (some (0)))), (1, .inl (p1))]) (st2 := [.inr (.inr none)]) rfl ?_
        cases h
        exact sd_b_rt rfl rfl rfl
      · rw [if_neg c3] at h
        refine sd_b_cf (c := .ge) rfl (decide_eq_false c3) (by decide) ?_
        refine sd_b_go 1 (pc2 := 19) (lv2 := [(0, .inr (.inr (some (0)))), (1, .inl (p1))]) (st2 := [.inr (.inr (some (0)))]) rfl ?_
        refine sd_b_gr (k := 3) sd_o_0 rfl rfl rfl ?_
        refine sd_b_go 1 (pc2 := 23) (lv2 := [(0, .inr (.inr (some (0)))), (1, .inl (p1))]) (st2 := [.inl (p1), .inr (.inr (some (15)))]) rfl ?_
        obtain ⟨g4, h⟩ := sd_if h
        refine sd_b_ar sd_ra_15 g4 rfl ?_
        refine sd_b_go 1 (pc2 := 28) (lv2 := [(0, .inr (.inr (some (0)))), (1, .inl (p1))]) (st2 := [.inr (.inr (some (16 + 7 * p1.toNat)))]) rfl ?_
        cases h
        exact sd_b_rt rfl rfl rfl
theorem m_X9_ruleAt {X : Nat → List sd_V → List sd_E → sd_A → Prop} {d : Nat} (hd : 1 ≤ d) {p1 : Int} {M : sd_M} {Rr : Option Nat × sd_M} (h : f_X9_ruleAt p1 M = some Rr) : sd_Cal X d 126 [.inr (.inr (some (0))), .inl (p1)] (sd_rp M) (some (.inr (.inr Rr.1)), sd_rp Rr.2, 0, 0) := by
  obtain ⟨d, rfl⟩ : ∃ d2, d = d2 + 1 := ⟨d - 1, by omega⟩
  exact sd_cal_of sd_i_X9_ruleAt (Nat.le_of_ble_eq_true rfl) (t_X9_ruleAt (by omega) p1 M Rr h)
theorem n_X9_ruleAt {p1 : Int} {M : sd_M} {r : Option Nat × sd_M} (h : f_X9_ruleAt p1 M = some r) : ∀ a, r.1 = some a → sd_o a 4 := by
  unfold f_X9_ruleAt at h
  split at h
  · cases h; intro a ha; cases ha
  · split at h
    · cases h; intro a ha; cases ha
    · split at h
      · cases h; intro a ha; cases ha
      · split at h
        · cases h; intro a ha; cases ha; exact sd_re_15 _ (by omega)
        · cases h
-- X9_ruleInForce
def sd_q_X9_ruleInForce : sd_MI := (yX9_ruleInForce, cX9_ruleInForce, 1, (some (.object "SlipDesk$Rule")), 9, 0, sd_t_X9_ruleInForce)
set_option maxRecDepth 4000 in
theorem sd_i_X9_ruleInForce : sd_mL[127]? = some sd_q_X9_ruleInForce := rfl
def f_X9_ruleInForce (M : sd_M) : Option (Option Nat × sd_M) := (f_X9_ruleAt (M 58 3) M).bind fun r1 => some (r1.1, r1.2)
set_option maxRecDepth 4000 in
theorem t_X9_ruleInForce {X : Nat → List sd_V → List sd_E → sd_A → Prop} {d : Nat} (hd : 1 ≤ d) (M : sd_M) (Rr : Option Nat × sd_M) (h : f_X9_ruleInForce M = some Rr) : sd_B X d sd_q_X9_ruleInForce 0 [(0, .inr (.inr (some (0))))] [] M (some (.inr (.inr Rr.1)), sd_rp Rr.2, 0, 0) := by
  unfold f_X9_ruleInForce at h
  refine sd_b_go 2 (pc2 := 2) (lv2 := [(0, .inr (.inr (some (0))))]) (st2 := [.inr (.inr (some (0))), .inr (.inr (some (0)))]) rfl ?_
  refine sd_b_gr (k := 5) sd_o_0 rfl rfl rfl ?_
  refine sd_b_gi (k := 3) sd_o_58 rfl rfl rfl ?_
  obtain ⟨r1, e1, h⟩ := sd_bnd h
  refine sd_b_call [.inr (.inr (some (0))), .inl (M 58 3)] [] rfl rfl sd_i_X9_ruleAt rfl rfl (Nat.le_of_ble_eq_true rfl) (sd_rc_v sd_o_0) (m_X9_ruleAt (by omega) e1) ?_
  cases h
  exact sd_b_rt rfl rfl rfl
theorem m_X9_ruleInForce {X : Nat → List sd_V → List sd_E → sd_A → Prop} {d : Nat} (hd : 2 ≤ d) {M : sd_M} {Rr : Option Nat × sd_M} (h : f_X9_ruleInForce M = some Rr) : sd_Cal X d 127 [.inr (.inr (some (0)))] (sd_rp M) (some (.inr (.inr Rr.1)), sd_rp Rr.2, 0, 0) := by
  obtain ⟨d, rfl⟩ : ∃ d2, d = d2 + 1 := ⟨d - 1, by omega⟩
  exact sd_cal_of sd_i_X9_ruleInForce (Nat.le_of_ble_eq_true rfl) (t_X9_ruleInForce (by omega) M Rr h)
theorem n_X9_ruleInForce {M : sd_M} {r : Option Nat × sd_M} (h : f_X9_ruleInForce M = some r) : ∀ a, r.1 = some a → sd_o a 4 := by
  unfold f_X9_ruleInForce at h
  obtain ⟨r1, e1, h⟩ := sd_bnd h
  cases h
  exact n_X9_ruleAt e1
-- X10_in
def sd_q_X10_in : sd_MI := (yX10_in, cX10_in, 6, (some .boolean), 10, 3, sd_t_X10_in)
set_option maxRecDepth 4000 in
theorem sd_i_X10_in : sd_mL[129]? = some sd_q_X10_in := rfl
def f_X10_in (p0 : Int) (p1 : Int) (p2 : Int) (M : sd_M) : Option (Int × sd_M) := if (sd_cmpl p0 p1) < 0 then (some (0, M)) else (if 0 < (sd_cmpl p0 p2) then (some (0, M)) else (some (1, M)))
set_option maxRecDepth 4000 in
theorem t_X10_in {X : Nat → List sd_V → List sd_E → sd_A → Prop} {d : Nat} (hd : 0 ≤ d) (p0 : Int) (p1 : Int) (p2 : Int) (M : sd_M) (Rr : Int × sd_M) (h : f_X10_in p0 p1 p2 M = some Rr) : sd_B X d sd_q_X10_in 0 [(0, .inr (.inl (p0))), (2, .inr (.inl (p1))), (4, .inr (.inl (p2)))] [] M (some (.inl Rr.1), sd_rp Rr.2, 0, 0) := by
  unfold f_X10_in at h
  refine sd_b_go 3 (pc2 := 3) (lv2 := [(0, .inr (.inl (p0))), (2, .inr (.inl (p1))), (4, .inr (.inl (p2)))]) (st2 := [.inl (sd_cmpl p0 p1)]) rfl ?_
  by_cases c1 : (sd_cmpl p0 p1) < 0
  · rw [if_pos c1] at h
    refine sd_b_zt (c := .lt) (tgt := 17) rfl (decide_eq_true c1) (by decide) ?_
    refine sd_b_go 1 (pc2 := 18) (lv2 := [(0, .inr (.inl (p0))), (2, .inr (.inl (p1))), (4, .inr (.inl (p2)))]) (st2 := [.inl (0)]) rfl ?_
    cases h
    exact sd_b_rt rfl rfl rfl
  · rw [if_neg c1] at h
    refine sd_b_zf (c := .lt) rfl (decide_eq_false c1) (by decide) ?_
    refine sd_b_go 3 (pc2 := 10) (lv2 := [(0, .inr (.inl (p0))), (2, .inr (.inl (p1))), (4, .inr (.inl (p2)))]) (st2 := [.inl (sd_cmpl p0 p2)]) rfl ?_
    by_cases c2 : 0 < (sd_cmpl p0 p2)
    · rw [if_pos c2] at h
      refine sd_b_zt (c := .gt) (tgt := 17) rfl (decide_eq_true c2) (by decide) ?_
      refine sd_b_go 1 (pc2 := 18) (lv2 := [(0, .inr (.inl (p0))), (2, .inr (.inl (p1))), (4, .inr (.inl (p2)))]) (st2 := [.inl (0)]) rfl ?_
      cases h
      exact sd_b_rt rfl rfl rfl
    · rw [if_neg c2] at h
      refine sd_b_zf (c := .gt) rfl (decide_eq_false c2) (by decide) ?_
      refine sd_b_go 2 (pc2 := 18) (lv2 := [(0, .inr (.inl (p0))), (2, .inr (.inl (p1))), (4, .inr (.inl (p2)))]) (st2 := [.inl (1)]) rfl ?_
      cases h
      exact sd_b_rt rfl rfl rfl
theorem m_X10_in {X : Nat → List sd_V → List sd_E → sd_A → Prop} {d : Nat} (hd : 1 ≤ d) {p0 : Int} {p1 : Int} {p2 : Int} {M : sd_M} {Rr : Int × sd_M} (h : f_X10_in p0 p1 p2 M = some Rr) : sd_Cal X d 129 [.inr (.inl (p0)), .inr (.inl (p1)), .inr (.inl (p2))] (sd_rp M) (some (.inl Rr.1), sd_rp Rr.2, 0, 0) := by
  obtain ⟨d, rfl⟩ : ∃ d2, d = d2 + 1 := ⟨d - 1, by omega⟩
  exact sd_cal_of sd_i_X10_in (Nat.le_of_ble_eq_true rfl) (t_X10_in (by omega) p0 p1 p2 M Rr h)
-- X10_isOf
def sd_q_X10_isOf : sd_MI := (yX10_isOf, cX10_isOf, 2, (some .boolean), 10, 2, sd_t_X10_isOf)
set_option maxRecDepth 4000 in
theorem sd_i_X10_isOf : sd_mL[130]? = some sd_q_X10_isOf := rfl
def f_X10_isOf (p0 : Int) (p1 : Int) (M : sd_M) : Option (Int × sd_M) := if (sd_and (sd_shr (p0) (p1)) (1)) = 1 then (some (1, M)) else (some (0, M))
set_option maxRecDepth 4000 in
theorem t_X10_isOf {X : Nat → List sd_V → List sd_E → sd_A → Prop} {d : Nat} (hd : 0 ≤ d) (p0 : Int) (p1 : Int) (M : sd_M) (Rr : Int × sd_M) (h : f_X10_isOf p0 p1 M = some Rr) : sd_B X d sd_q_X10_isOf 0 [(0, .inl (p0)), (1, .inl (p1))] [] M (some (.inl Rr.1), sd_rp Rr.2, 0, 0) := by
  unfold f_X10_isOf at h
  refine sd_b_go 6 (pc2 := 6) (lv2 := [(0, .inl (p0)), (1, .inl (p1))]) (st2 := [.inl (1), .inl (sd_and (sd_shr (p0) (p1)) (1))]) rfl ?_
  by_cases c1 : (sd_and (sd_shr (p0) (p1)) (1)) = 1
  · rw [if_pos c1] at h
    refine sd_b_cf (c := .ne) rfl (decide_eq_false (not_not_intro c1)) (by decide) ?_
    refine sd_b_go 2 (pc2 := 14) (lv2 := [(0, .inl (p0)), (1, .inl (p1))]) (st2 := [.inl (1)]) rfl ?_
    cases h
    exact sd_b_rt rfl rfl rfl
  · rw [if_neg c1] at h
    refine sd_b_ct (c := .ne) (tgt := 13) rfl (decide_eq_true c1) (by decide) ?_
    refine sd_b_go 1 (pc2 := 14) (lv2 := [(0, .inl (p0)), (1, .inl (p1))]) (st2 := [.inl (0)]) rfl ?_
    cases h
    exact sd_b_rt rfl rfl rfl
theorem m_X10_isOf {X : Nat → List sd_V → List sd_E → sd_A → Prop} {d : Nat} (hd : 1 ≤ d) {p0 : Int} {p1 : Int} {M : sd_M} {Rr : Int × sd_M} (h : f_X10_isOf p0 p1 M = some Rr) : sd_Cal X d 130 [.inl (p0), .inl (p1)] (sd_rp M) (some (.inl Rr.1), sd_rp Rr.2, 0, 0) := by
  obtain ⟨d, rfl⟩ : ∃ d2, d = d2 + 1 := ⟨d - 1, by omega⟩
  exact sd_cal_of sd_i_X10_isOf (Nat.le_of_ble_eq_true rfl) (t_X10_isOf (by omega) p0 p1 M Rr h)
-- X10_bits
def sd_q_X10_bits : sd_MI := (yX10_bits, cX10_bits, 3, (some .int), 10, 1, sd_t_X10_bits)
set_option maxRecDepth 4000 in
theorem sd_i_X10_bits : sd_mL[131]? = some sd_q_X10_bits := rfl
def f_X10_bits_4 : Nat → Int → Int → sd_M → Option (Int × sd_M)
  | 0, _, _, _ => none
  | n + 1, v1, v2, M => if v2 = 0 then (some (v1, M)) else (f_X10_bits_4 n (sd_w (v1 + 1)) (sd_and (v2) (sd_w (v2 - 1))) M)
set_option maxRecDepth 4000 in
theorem t_X10_bits_4 {X : Nat → List sd_V → List sd_E → sd_A → Prop} {d : Nat} (hd : 0 ≤ d) : ∀ (n : Nat) (v1 : Int) (v2 : Int) (M : sd_M) (Rr : Int × sd_M), f_X10_bits_4 n v1 v2 M = some Rr → sd_B X d sd_q_X10_bits 4 [(1, .inl (v1)), (2, .inl (v2))] [] M (some (.inl Rr.1), sd_rp Rr.2, 0, 0) := by
  intro n
  induction n with
  | zero => intro v1 v2 M Rr h; cases h
  | succ n ih =>
    intro v1 v2 M Rr h
    rw [f_X10_bits_4] at h
    refine sd_b_go 1 (pc2 := 5) (lv2 := [(1, .inl (v1)), (2, .inl (v2))]) (st2 := [.inl (v2)]) rfl ?_
    by_cases c1 : v2 = 0
    · rw [if_pos c1] at h
      refine sd_b_zt (c := .eq) (tgt := 20) rfl (decide_eq_true c1) (by decide) ?_
      refine sd_b_go 1 (pc2 := 21) (lv2 := [(1, .inl (v1)), (2, .inl (v2))]) (st2 := [.inl (v1)]) rfl ?_
      cases h
      exact sd_b_rt rfl rfl rfl
    · rw [if_neg c1] at h
      refine sd_b_zf (c := .eq) rfl (decide_eq_false c1) (by decide) ?_
      refine sd_b_go 8 (pc2 := 4) (lv2 := [(2, .inl (sd_and (v2) (sd_w (v2 - 1)))), (1, .inl (sd_w (v1 + 1)))]) (st2 := []) rfl ?_
      refine sd_b_wk [(1, .inl (sd_w (v1 + 1))), (2, .inl (sd_and (v2) (sd_w (v2 - 1))))] (List.forall_mem_cons.mpr ⟨rfl, (List.forall_mem_cons.mpr ⟨rfl, (fun _ h0 => absurd h0 List.not_mem_nil)⟩)⟩) ?_
      exact ih (sd_w (v1 + 1)) (sd_and (v2) (sd_w (v2 - 1))) M _ h
def f_X10_bits (p0 : Int) (M : sd_M) : Option (Int × sd_M) := f_X10_bits_4 4000 0 p0 M
set_option maxRecDepth 4000 in
theorem t_X10_bits {X : Nat → List sd_V → List sd_E → sd_A → Prop} {d : Nat} (hd : 0 ≤ d) (p0 : Int) (M : sd_M) (Rr : Int × sd_M) (h : f_X10_bits p0 M = some Rr) : sd_B X d sd_q_X10_bits 0 [(0, .inl (p0))] [] M (some (.inl Rr.1), sd_rp Rr.2, 0, 0) := by
  unfold f_X10_bits at h
  refine sd_b_go 4 (pc2 := 4) (lv2 := [(2, .inl (p0)), (1, .inl (0)), (0, .inl (p0))]) (st2 := []) rfl ?_
  refine sd_b_wk [(1, .inl (0)), (2, .inl (p0))] (List.forall_mem_cons.mpr ⟨rfl, (List.forall_mem_cons.mpr ⟨rfl, (fun _ h0 => absurd h0 List.not_mem_nil)⟩)⟩) ?_
  exact t_X10_bits_4 hd 4000 0 p0 M _ h
theorem m_X10_bits {X : Nat → List sd_V → List sd_E → sd_A → Prop} {d : Nat} (hd : 1 ≤ d) {p0 : Int} {M : sd_M} {Rr : Int × sd_M} (h : f_X10_bits p0 M = some Rr) : sd_Cal X d 131 [.inl (p0)] (sd_rp M) (some (.inl Rr.1), sd_rp Rr.2, 0, 0) := by
  obtain ⟨d, rfl⟩ : ∃ d2, d = d2 + 1 := ⟨d - 1, by omega⟩
  exact sd_cal_of sd_i_X10_bits (Nat.le_of_ble_eq_true rfl) (t_X10_bits (by omega) p0 M Rr h)
-- X10_four
def sd_q_X10_four : sd_MI := (yX10_four, cX10_four, 3, none, 10, 1, sd_t_X10_four)
set_option maxRecDepth 4000 in
theorem sd_i_X10_four : sd_mL[132]? = some sd_q_X10_four := rfl
def f_X10_four_3 : Nat → Int → Int → sd_M → Option (Int × sd_M)
  | 0, _, _, _ => none
  | n + 1, v1, v2, M => if v2 < 0 then (some (0, M)) else (if 0 ≤ (M 331 1) ∧ (M 331 1) < 400 then (f_X10_four_3 n v1 (sd_w (v2 + (-8))) (sd_s (sd_s M 332 (M 331 1).toNat (Int.bmod (Int.bmod (sd_shr (v1) (v2)) 256) 256)) 331 1 (sd_w ((sd_s M 332 (M 331 1).toNat (Int.bmod (Int.bmod (sd_shr (v1) (v2)) 256) 256) 331 1) + 1)))) else none)
set_option maxRecDepth 4000 in
theorem t_X10_four_3 {X : Nat → List sd_V → List sd_E → sd_A → Prop} {d : Nat} (hd : 0 ≤ d) : ∀ (n : Nat) (v1 : Int) (v2 : Int) (M : sd_M) (Rr : Int × sd_M), f_X10_four_3 n v1 v2 M = some Rr → sd_B X d sd_q_X10_four 3 [(0, .inr (.inr (some (331)))), (1, .inl (v1)), (2, .inl (v2))] [] M (none, sd_rp Rr.2, 0, 0) := by
  intro n
  induction n with
  | zero => intro v1 v2 M Rr h; cases h
  | succ n ih =>
    intro v1 v2 M Rr h
    rw [f_X10_four_3] at h
    refine sd_b_go 1 (pc2 := 4) (lv2 := [(0, .inr (.inr (some (331)))), (1, .inl (v1)), (2, .inl (v2))]) (st2 := [.inl (v2)]) rfl ?_
    by_cases c1 : v2 < 0
    · rw [if_pos c1] at h
      refine sd_b_zt (c := .lt) (tgt := 36) rfl (decide_eq_true c1) (by decide) ?_
      cases h
      exact sd_b_rt rfl rfl rfl
    · rw [if_neg c1] at h
      refine sd_b_zf (c := .lt) rfl (decide_eq_false c1) (by decide) ?_
      refine sd_b_go 1 (pc2 := 8) (lv2 := [(0, .inr (.inr (some (331)))), (1, .inl (v1)), (2, .inl (v2))]) (st2 := [.inr (.inr (some (331)))]) rfl ?_
      refine sd_b_gr (k := 0) sd_o_331 rfl rfl rfl ?_
      refine sd_b_go 1 (pc2 := 12) (lv2 := [(0, .inr (.inr (some (331)))), (1, .inl (v1)), (2, .inl (v2))]) (st2 := [.inr (.inr (some (331))), .inr (.inr (some (332)))]) rfl ?_
      refine sd_b_gi (k := 1) sd_o_331 rfl rfl rfl ?_
      refine sd_b_go 4 (pc2 := 19) (lv2 := [(0, .inr (.inr (some (331)))), (1, .inl (v1)), (2, .inl (v2))]) (st2 := [.inl (Int.bmod (sd_shr (v1) (v2)) 256), .inl (M 331 1), .inr (.inr (some (332)))]) rfl ?_
      obtain ⟨g2, h⟩ := sd_if h
      refine sd_b_sb (sd_oa sd_o_331 (by decide) (off := 1) (List.mem_of_getElem? (i := 0) rfl)) g2 rfl ?_
      refine sd_b_go 2 (pc2 := 22) (lv2 := [(0, .inr (.inr (some (331)))), (1, .inl (v1)), (2, .inl (v2))]) (st2 := [.inr (.inr (some (331))), .inr (.inr (some (331)))]) rfl ?_
      refine sd_b_gi (k := 1) sd_o_331 rfl rfl rfl ?_
      refine sd_b_go 2 (pc2 := 27) (lv2 := [(0, .inr (.inr (some (331)))), (1, .inl (v1)), (2, .inl (v2))]) (st2 := [.inl (sd_w ((sd_s M 332 (M 331 1).toNat (Int.bmod (Int.bmod (sd_shr (v1) (v2)) 256) 256) 331 1) + 1)), .inr (.inr (some (331)))]) rfl ?_
      refine sd_b_pi (k := 1) sd_o_331 rfl rfl rfl rfl rfl ?_
      refine sd_b_go 2 (pc2 := 3) (lv2 := [(2, .inl (sd_w (v2 + (-8)))), (0, .inr (.inr (some (331)))), (1, .inl (v1))]) (st2 := []) rfl ?_
      refine sd_b_wk [(0, .inr (.inr (some (331)))), (1, .inl (v1)), (2, .inl (sd_w (v2 + (-8))))] (List.forall_mem_cons.mpr ⟨rfl, (List.forall_mem_cons.mpr ⟨rfl, (List.forall_mem_cons.mpr ⟨rfl, (fun _ h0 => absurd h0 List.not_mem_nil)⟩)⟩)⟩) ?_
      exact ih v1 (sd_w (v2 + (-8))) (sd_s (sd_s M 332 (M 331 1).toNat (Int.bmod (Int.bmod (sd_shr (v1) (v2)) 256) 256)) 331 1 (sd_w ((sd_s M 332 (M 331 1).toNat (Int.bmod (Int.bmod (sd_shr (v1) (v2)) 256) 256) 331 1) + 1))) _ h
def f_X10_four (p1 : Int) (M : sd_M) : Option (Int × sd_M) := f_X10_four_3 4000 p1 24 M
set_option maxRecDepth 4000 in
theorem t_X10_four {X : Nat → List sd_V → List sd_E → sd_A → Prop} {d : Nat} (hd : 0 ≤ d) (p1 : Int) (M : sd_M) (Rr : Int × sd_M) (h : f_X10_four p1 M = some Rr) : sd_B X d sd_q_X10_four 0 [(0, .inr (.inr (some (331)))), (1, .inl (p1))] [] M (none, sd_rp Rr.2, 0, 0) := by
  unfold f_X10_four at h
  refine sd_b_go 2 (pc2 := 3) (lv2 := [(2, .inl (24)), (0, .inr (.inr (some (331)))), (1, .inl (p1))]) (st2 := []) rfl ?_
  refine sd_b_wk [(0, .inr (.inr (some (331)))), (1, .inl (p1)), (2, .inl (24))] (List.forall_mem_cons.mpr ⟨rfl, (List.forall_mem_cons.mpr ⟨rfl, (List.forall_mem_cons.mpr ⟨rfl, (fun _ h0 => absurd h0 List.not_mem_nil)⟩)⟩)⟩) ?_
  exact t_X10_four_3 hd 4000 p1 24 M _ h
theorem m_X10_four {X : Nat → List sd_V → List sd_E → sd_A → Prop} {d : Nat} (hd : 1 ≤ d) {p1 : Int} {M : sd_M} {Rr : Int × sd_M} (h : f_X10_four p1 M = some Rr) : sd_Cal X d 132 [.inr (.inr (some (331))), .inl (p1)] (sd_rp M) (none, sd_rp Rr.2, 0, 0) := by
  obtain ⟨d, rfl⟩ : ∃ d2, d = d2 + 1 := ⟨d - 1, by omega⟩
  exact sd_cal_of sd_i_X10_four (Nat.le_of_ble_eq_true rfl) (t_X10_four (by omega) p1 M Rr h)
-- X10_feed
def sd_q_X10_feed : sd_MI := (yX10_feed, cX10_feed, 6, (some .int), 10, 5, sd_t_X10_feed)
set_option maxRecDepth 4000 in
theorem sd_i_X10_feed : sd_mL[133]? = some sd_q_X10_feed := rfl
def f_X10_feed (p1 : Int) (p2 : Int) (p3 : Int) (p4 : Int) (p5 : Int) (M : sd_M) : Option (Int × sd_M) := if (sd_w ((M 331 1) + 20)) ≤ 400 then ((f_X10_four p1 M).bind fun r2 => (f_X10_four p2 r2.2).bind fun r3 => (f_X10_four p3 r3.2).bind fun r4 => (f_X10_four p4 r4.2).bind fun r5 => (f_X10_four p5 r5.2).bind fun r6 => some (r6.2 331 1, r6.2)) else (some ((-1), M))
set_option maxRecDepth 4000 in
theorem t_X10_feed {X : Nat → List sd_V → List sd_E → sd_A → Prop} {d : Nat} (hd : 1 ≤ d) (p1 : Int) (p2 : Int) (p3 : Int) (p4 : Int) (p5 : Int) (M : sd_M) (Rr : Int × sd_M) (h : f_X10_feed p1 p2 p3 p4 p5 M = some Rr) : sd_B X d sd_q_X10_feed 0 [(0, .inr (.inr (some (331)))), (1, .inl (p1)), (2, .inl (p2)), (3, .inl (p3)), (4, .inl (p4)), (5, .inl (p5))] [] M (some (.inl Rr.1), sd_rp Rr.2, 0, 0) := by
  unfold f_X10_feed at h
  refine sd_b_go 1 (pc2 := 1) (lv2 := [(0, .inr (.inr (some (331)))), (1, .inl (p1)), (2, .inl (p2)), (3, .inl (p3)), (4, .inl (p4)), (5, .inl (p5))]) (st2 := [.inr (.inr (some (331)))]) rfl ?_
  refine sd_b_gi (k := 1) sd_o_331 rfl rfl rfl ?_
  refine sd_b_go 3 (pc2 := 10) (lv2 := [(0, .inr (.inr (some (331)))), (1, .inl (p1)), (2, .inl (p2)), (3, .inl (p3)), (4, .inl (p4)), (5, .inl (p5))]) (st2 := [.inl (400), .inl (sd_w ((M 331 1) + 20))]) rfl ?_
  by_cases c1 : (sd_w ((M 331 1) + 20)) ≤ 400
  · rw [if_pos c1] at h
    refine sd_b_ct (c := .le) (tgt := 15) rfl (decide_eq_true c1) (by decide) ?_
    refine sd_b_go 2 (pc2 := 17) (lv2 := [(0, .inr (.inr (some (331)))), (1, .inl (p1)), (2, .inl (p2)), (3, .inl (p3)), (4, .inl (p4)), (5, .inl (p5))]) (st2 := [.inl (p1), .inr (.inr (some (331)))]) rfl ?_
    obtain ⟨r2, e2, h⟩ := sd_bnd h
    refine sd_b_call [.inr (.inr (some (331))), .inl (p1)] [] rfl rfl sd_i_X10_four rfl rfl (Nat.le_of_ble_eq_true rfl) (sd_rc_v sd_o_331) (m_X10_four (by omega) e2) ?_
    refine sd_b_go 2 (pc2 := 22) (lv2 := [(0, .inr (.inr (some (331)))), (1, .inl (p1)), (2, .inl (p2)), (3, .inl (p3)), (4, .inl (p4)), (5, .inl (p5))]) (st2 := [.inl (p2), .inr (.inr (some (331)))]) rfl ?_
    obtain ⟨r3, e3, h⟩ := sd_bnd h
    refine sd_b_call [.inr (.inr (some (331))), .inl (p2)] [] rfl rfl sd_i_X10_four rfl rfl (Nat.le_of_ble_eq_true rfl) (sd_rc_v sd_o_331) (m_X10_four (by omega) e3) ?_
    refine sd_b_go 2 (pc2 := 27) (lv2 := [(0, .inr (.inr (some (331)))), (1, .inl (p1)), (2, .inl (p2)), (3, .inl (p3)), (4, .inl (p4)), (5, .inl (p5))]) (st2 := [.inl (p3), .inr (.inr (some (331)))]) rfl ?_
    obtain ⟨r4, e4, h⟩ := sd_bnd h
    refine sd_b_call [.inr (.inr (some (331))), .inl (p3)] [] rfl rfl sd_i_X10_four rfl rfl (Nat.le_of_ble_eq_true rfl) (sd_rc_v sd_o_331) (m_X10_four (by omega) e4) ?_
    refine sd_b_go 2 (pc2 := 33) (lv2 := [(0, .inr (.inr (some (331)))), (1, .inl (p1)), (2, .inl (p2)), (3, .inl (p3)), (4, .inl (p4)), (5, .inl (p5))]) (st2 := [.inl (p4), .inr (.inr (some (331)))]) rfl ?_
    obtain ⟨r5, e5, h⟩ := sd_bnd h
    refine sd_b_call [.inr (.inr (some (331))), .inl (p4)] [] rfl rfl sd_i_X10_four rfl rfl (Nat.le_of_ble_eq_true rfl) (sd_rc_v sd_o_331) (m_X10_four (by omega) e5) ?_
    refine sd_b_go 2 (pc2 := 39) (lv2 := [(0, .inr (.inr (some (331)))), (1, .inl (p1)), (2, .inl (p2)), (3, .inl (p3)), (4, .inl (p4)), (5, .inl (p5))]) (st2 := [.inl (p5), .inr (.inr (some (331)))]) rfl ?_
    obtain ⟨r6, e6, h⟩ := sd_bnd h
    refine sd_b_call [.inr (.inr (some (331))), .inl (p5)] [] rfl rfl sd_i_X10_four rfl rfl (Nat.le_of_ble_eq_true rfl) (sd_rc_v sd_o_331) (m_X10_four (by omega) e6) ?_
    refine sd_b_go 1 (pc2 := 43) (lv2 := [(0, .inr (.inr (some (331)))), (1, .inl (p1)), (2, .inl (p2)), (3, .inl (p3)), (4, .inl (p4)), (5, .inl (p5))]) (st2 := [.inr (.inr (some (331)))]) rfl ?_
    refine sd_b_gi (k := 1) sd_o_331 rfl rfl rfl ?_
    cases h
    exact sd_b_rt rfl rfl rfl
  · rw [if_neg c1] at h
    refine sd_b_cf (c := .le) rfl (decide_eq_false c1) (by decide) ?_
    refine sd_b_go 1 (pc2 := 14) (lv2 := [(0, .inr (.inr (some (331)))), (1, .inl (p1)), (2, .inl (p2)), (3, .inl (p3)), (4, .inl (p4)), (5, .inl (p5))]) (st2 := [.inl ((-1))]) rfl ?_
    cases h
    exact sd_b_rt rfl rfl rfl
theorem m_X10_feed {X : Nat → List sd_V → List sd_E → sd_A → Prop} {d : Nat} (hd : 2 ≤ d) {p1 : Int} {p2 : Int} {p3 : Int} {p4 : Int} {p5 : Int} {M : sd_M} {Rr : Int × sd_M} (h : f_X10_feed p1 p2 p3 p4 p5 M = some Rr) : sd_Cal X d 133 [.inr (.inr (some (331))), .inl (p1), .inl (p2), .inl (p3), .inl (p4), .inl (p5)] (sd_rp M) (some (.inl Rr.1), sd_rp Rr.2, 0, 0) := by
  obtain ⟨d, rfl⟩ : ∃ d2, d = d2 + 1 := ⟨d - 1, by omega⟩
  exact sd_cal_of sd_i_X10_feed (Nat.le_of_ble_eq_true rfl) (t_X10_feed (by omega) p1 p2 p3 p4 p5 M Rr h)
-- X10_end
def sd_q_X10_end : sd_MI := (yX10_end, cX10_end, 2, (some .int), 10, 1, sd_t_X10_end)
set_option maxRecDepth 4000 in
theorem sd_i_X10_end : sd_mL[134]? = some sd_q_X10_end := rfl
def f_X10_end (p1 : Int) (M : sd_M) : Option (Int × sd_M) := if p1 < 0 then (some ((-1), M)) else (if p1 ≤ (M 331 1) then (some (p1, sd_s M 331 1 p1)) else (some ((-1), M)))
set_option maxRecDepth 4000 in
theorem t_X10_end {X : Nat → List sd_V → List sd_E → sd_A → Prop} {d : Nat} (hd : 0 ≤ d) (p1 : Int) (M : sd_M) (Rr : Int × sd_M) (h : f_X10_end p1 M = some Rr) : sd_B X d sd_q_X10_end 0 [(0, .inr (.inr (some (331)))), (1, .inl (p1))] [] M (some (.inl Rr.1), sd_rp Rr.2, 0, 0) := by
  unfold f_X10_end at h
  refine sd_b_go 1 (pc2 := 1) (lv2 := [(0, .inr (.inr (some (331)))), (1, .inl (p1))]) (st2 := [.inl (p1)]) rfl ?_
  by_cases c1 : p1 < 0
  · rw [if_pos c1] at h
    refine sd_b_zt (c := .lt) (tgt := 12) rfl (decide_eq_true c1) (by decide) ?_
    refine sd_b_go 1 (pc2 := 13) (lv2 := [(0, .inr (.inr (some (331)))), (1, .inl (p1))]) (st2 := [.inl ((-1))]) rfl ?_
    cases h
    exact sd_b_rt rfl rfl rfl
  · rw [if_neg c1] at h
    refine sd_b_zf (c := .lt) rfl (decide_eq_false c1) (by decide) ?_
    refine sd_b_go 2 (pc2 := 6) (lv2 := [(0, .inr (.inr (some (331)))), (1, .inl (p1))]) (st2 := [.inr (.inr (some (331))), .inl (p1)]) rfl ?_
    refine sd_b_gi (k := 1) sd_o_331 rfl rfl rfl ?_
    by_cases c2 : p1 ≤ (M 331 1)
    · rw [if_pos c2] at h
      refine sd_b_ct (c := .le) (tgt := 14) rfl (decide_eq_true c2) (by decide) ?_
      refine sd_b_go 2 (pc2 := 16) (lv2 := [(0, .inr (.inr (some (331)))), (1, .inl (p1))]) (st2 := [.inl (p1), .inr (.inr (some (331)))]) rfl ?_
      refine sd_b_pi (k := 1) sd_o_331 rfl rfl rfl rfl rfl ?_
      refine sd_b_go 1 (pc2 := 20) (lv2 := [(0, .inr (.inr (some (331)))), (1, .inl (p1))]) (st2 := [.inl (p1)]) rfl ?_
      cases h
      exact sd_b_rt rfl rfl rfl
    · rw [if_neg c2] at h
      refine sd_b_cf (c := .le) rfl (decide_eq_false c2) (by decide) ?_
      refine sd_b_go 1 (pc2 := 13) (lv2 := [(0, .inr (.inr (some (331)))), (1, .inl (p1))]) (st2 := [.inl ((-1))]) rfl ?_
      cases h
      exact sd_b_rt rfl rfl rfl
theorem m_X10_end {X : Nat → List sd_V → List sd_E → sd_A → Prop} {d : Nat} (hd : 1 ≤ d) {p1 : Int} {M : sd_M} {Rr : Int × sd_M} (h : f_X10_end p1 M = some Rr) : sd_Cal X d 134 [.inr (.inr (some (331))), .inl (p1)] (sd_rp M) (some (.inl Rr.1), sd_rp Rr.2, 0, 0) := by
  obtain ⟨d, rfl⟩ : ∃ d2, d = d2 + 1 := ⟨d - 1, by omega⟩
  exact sd_cal_of sd_i_X10_end (Nat.le_of_ble_eq_true rfl) (t_X10_end (by omega) p1 M Rr h)
-- X10_fails
def sd_q_X10_fails : sd_MI := (yX10_fails, cX10_fails, 3, (some .boolean), 10, 2, sd_t_X10_fails)
set_option maxRecDepth 4000 in
theorem sd_i_X10_fails : sd_mL[135]? = some sd_q_X10_fails := rfl
def f_X10_fails (p1 : Int) (p2 : Int) (M : sd_M) : Option (Int × sd_M) := if (M 331 9) = 0 then (some (0, sd_s M 331 9 (sd_w ((sd_w (1 + (sd_w (8 * p2)))) + p1)))) else (some (0, M))
set_option maxRecDepth 4000 in
theorem t_X10_fails {X : Nat → List sd_V → List sd_E → sd_A → Prop} {d : Nat} (hd : 0 ≤ d) (p1 : Int) (p2 : Int) (M : sd_M) (Rr : Int × sd_M) (h : f_X10_fails p1 p2 M = some Rr) : sd_B X d sd_q_X10_fails 0 [(0, .inr (.inr (some (331)))), (1, .inl (p1)), (2, .inl (p2))] [] M (some (.inl Rr.1), sd_rp Rr.2, 0, 0) := by
  unfold f_X10_fails at h
  refine sd_b_go 1 (pc2 := 1) (lv2 := [(0, .inr (.inr (some (331)))), (1, .inl (p1)), (2, .inl (p2))]) (st2 := [.inr (.inr (some (331)))]) rfl ?_
  refine sd_b_gi (k := 9) sd_o_331 rfl rfl rfl ?_
  by_cases c1 : (M 331 9) = 0
  · rw [if_pos c1] at h
    refine sd_b_zf (c := .ne) rfl (decide_eq_false (not_not_intro c1)) (by decide) ?_
    refine sd_b_go 8 (pc2 := 16) (lv2 := [(0, .inr (.inr (some (331)))), (1, .inl (p1)), (2, .inl (p2))]) (st2 := [.inl (sd_w ((sd_w (1 + (sd_w (8 * p2)))) + p1)), .inr (.inr (some (331)))]) rfl ?_
    refine sd_b_pi (k := 9) sd_o_331 rfl rfl rfl rfl rfl ?_
    refine sd_b_go 1 (pc2 := 20) (lv2 := [(0, .inr (.inr (some (331)))), (1, .inl (p1)), (2, .inl (p2))]) (st2 := [.inl (0)]) rfl ?_
    cases h
    exact sd_b_rt rfl rfl rfl
  · rw [if_neg c1] at h
    refine sd_b_zt (c := .ne) (tgt := 19) rfl (decide_eq_true c1) (by decide) ?_
    refine sd_b_go 1 (pc2 := 20) (lv2 := [(0, .inr (.inr (some (331)))), (1, .inl (p1)), (2, .inl (p2))]) (st2 := [.inl (0)]) rfl ?_
    cases h
    exact sd_b_rt rfl rfl rfl
theorem m_X10_fails {X : Nat → List sd_V → List sd_E → sd_A → Prop} {d : Nat} (hd : 1 ≤ d) {p1 : Int} {p2 : Int} {M : sd_M} {Rr : Int × sd_M} (h : f_X10_fails p1 p2 M = some Rr) : sd_Cal X d 135 [.inr (.inr (some (331))), .inl (p1), .inl (p2)] (sd_rp M) (some (.inl Rr.1), sd_rp Rr.2, 0, 0) := by
  obtain ⟨d, rfl⟩ : ∃ d2, d = d2 + 1 := ⟨d - 1, by omega⟩
  exact sd_cal_of sd_i_X10_fails (Nat.le_of_ble_eq_true rfl) (t_X10_fails (by omega) p1 p2 M Rr h)
-- X10_see
def sd_q_X10_see : sd_MI := (yX10_see, cX10_see, 1, (some .int), 10, 0, sd_t_X10_see)
set_option maxRecDepth 4000 in
theorem sd_i_X10_see : sd_mL[136]? = some sd_q_X10_see := rfl
def f_X10_see_0 (k38 : sd_M → Option (Int × sd_M)) : Nat → sd_M → Option (Int × sd_M)
  | 0, _ => none
  | n + 1, M => if (M 331 1) ≤ (M 331 8) then (k38 M) else (if 0 ≤ (M 331 8) ∧ (M 331 8) < 400 then (if (M 332 (M 331 8).toNat) = 32 then (f_X10_see_0 k38 n (sd_s M 331 8 (sd_w ((M 331 8) + 1)))) else (k38 M)) else none)
set_option maxRecDepth 4000 in
theorem t_X10_see_0 {X : Nat → List sd_V → List sd_E → sd_A → Prop} {d : Nat} (hd : 0 ≤ d) (k38 : sd_M → Option (Int × sd_M)) (hk38 : ∀ (M : sd_M) (Rr : Int × sd_M), k38 M = some Rr → sd_B X d sd_q_X10_see 38 [(0, .inr (.inr (some (331))))] [] M (some (.inl Rr.1), sd_rp Rr.2, 0, 0)) : ∀ (n : Nat) (M : sd_M) (Rr : Int × sd_M), f_X10_see_0 k38 n M = some Rr → sd_B X d sd_q_X10_see 0 [(0, .inr (.inr (some (331))))] [] M (some (.inl Rr.1), sd_rp Rr.2, 0, 0) := by
  intro n
  induction n with
  | zero => intro M Rr h; cases h
  | succ n ih =>
    intro M Rr h
    rw [f_X10_see_0] at h
    refine sd_b_go 1 (pc2 := 1) (lv2 := [(0, .inr (.inr (some (331))))]) (st2 := [.inr (.inr (some (331)))]) rfl ?_
    refine sd_b_gi (k := 8) sd_o_331 rfl rfl rfl ?_
    refine sd_b_go 1 (pc2 := 5) (lv2 := [(0, .inr (.inr (some (331))))]) (st2 := [.inr (.inr (some (331))), .inl (M 331 8)]) rfl ?_
    refine sd_b_gi (k := 1) sd_o_331 rfl rfl rfl ?_
    by_cases c1 : (M 331 1) ≤ (M 331 8)
    · rw [if_pos c1] at h
      refine sd_b_ct (c := .ge) (tgt := 38) rfl (decide_eq_true c1) (by decide) ?_
      refine sd_b_wk [(0, .inr (.inr (some (331))))] (List.forall_mem_cons.mpr ⟨rfl, (fun _ h0 => absurd h0 List.not_mem_nil)⟩) ?_
      exact hk38 M _ h
    · rw [if_neg c1] at h
      refine sd_b_cf (c := .ge) rfl (decide_eq_false c1) (by decide) ?_
      refine sd_b_go 1 (pc2 := 12) (lv2 := [(0, .inr (.inr (some (331))))]) (st2 := [.inr (.inr (some (331)))]) rfl ?_
      refine sd_b_gr (k := 0) sd_o_331 rfl rfl rfl ?_
      refine sd_b_go 1 (pc2 := 16) (lv2 := [(0, .inr (.inr (some (331))))]) (st2 := [.inr (.inr (some (331))), .inr (.inr (some (332)))]) rfl ?_
      refine sd_b_gi (k := 8) sd_o_331 rfl rfl rfl ?_
      obtain ⟨g2, h⟩ := sd_if h
      refine sd_b_ab (sd_oa sd_o_331 (by decide) (off := 1) (List.mem_of_getElem? (i := 0) rfl)) (by decide) g2 rfl ?_
      refine sd_b_go 1 (pc2 := 22) (lv2 := [(0, .inr (.inr (some (331))))]) (st2 := [.inl (32), .inl (M 332 (M 331 8).toNat)]) rfl ?_
      by_cases c3 : (M 332 (M 331 8).toNat) = 32
      · rw [if_pos c3] at h
        refine sd_b_cf (c := .ne) rfl (decide_eq_false (not_not_intro c3)) (by decide) ?_
        refine sd_b_go 2 (pc2 := 27) (lv2 := [(0, .inr (.inr (some (331))))]) (st2 := [.inr (.inr (some (331))), .inr (.inr (some (331)))]) rfl ?_
        refine sd_b_gi (k := 8) sd_o_331 rfl rfl rfl ?_
        refine sd_b_go 2 (pc2 := 32) (lv2 := [(0, .inr (.inr (some (331))))]) (st2 := [.inl (sd_w ((M 331 8) + 1)), .inr (.inr (some (331)))]) rfl ?_
        refine sd_b_pi (k := 8) sd_o_331 rfl rfl rfl rfl rfl ?_
        refine sd_b_go 1 (pc2 := 0) (lv2 := [(0, .inr (.inr (some (331))))]) (st2 := []) rfl ?_
        refine sd_b_wk [(0, .inr (.inr (some (331))))] (List.forall_mem_cons.mpr ⟨rfl, (fun _ h0 => absurd h0 List.not_mem_nil)⟩) ?_
        exact ih (sd_s M 331 8 (sd_w ((M 331 8) + 1))) _ h
      · rw [if_neg c3] at h
        refine sd_b_ct (c := .ne) (tgt := 38) rfl (decide_eq_true c3) (by decide) ?_
        refine sd_b_wk [(0, .inr (.inr (some (331))))] (List.forall_mem_cons.mpr ⟨rfl, (fun _ h0 => absurd h0 List.not_mem_nil)⟩) ?_
        exact hk38 M _ h
def f_X10_see_38 (M : sd_M) : Option (Int × sd_M) := if (M 331 1) ≤ (M 331 8) then (some ((-1), M)) else (if 0 ≤ (M 331 8) ∧ (M 331 8) < 400 then (some (sd_and (M 332 (M 331 8).toNat) (255), M)) else none)
set_option maxRecDepth 4000 in
theorem t_X10_see_38 {X : Nat → List sd_V → List sd_E → sd_A → Prop} {d : Nat} (hd : 0 ≤ d) (M : sd_M) (Rr : Int × sd_M) (h : f_X10_see_38 M = some Rr) : sd_B X d sd_q_X10_see 38 [(0, .inr (.inr (some (331))))] [] M (some (.inl Rr.1), sd_rp Rr.2, 0, 0) := by
  unfold f_X10_see_38 at h
  refine sd_b_go 1 (pc2 := 39) (lv2 := [(0, .inr (.inr (some (331))))]) (st2 := [.inr (.inr (some (331)))]) rfl ?_
  refine sd_b_gi (k := 8) sd_o_331 rfl rfl rfl ?_
  refine sd_b_go 1 (pc2 := 43) (lv2 := [(0, .inr (.inr (some (331))))]) (st2 := [.inr (.inr (some (331))), .inl (M 331 8)]) rfl ?_
  refine sd_b_gi (k := 1) sd_o_331 rfl rfl rfl ?_
  by_cases c1 : (M 331 1) ≤ (M 331 8)
  · rw [if_pos c1] at h
    refine sd_b_ct (c := .ge) (tgt := 65) rfl (decide_eq_true c1) (by decide) ?_
    refine sd_b_go 1 (pc2 := 66) (lv2 := [(0, .inr (.inr (some (331))))]) (st2 := [.inl ((-1))]) rfl ?_
    cases h
    exact sd_b_rt rfl rfl rfl
  · rw [if_neg c1] at h
    refine sd_b_cf (c := .ge) rfl (decide_eq_false c1) (by decide) ?_
    refine sd_b_go 1 (pc2 := 50) (lv2 := [(0, .inr (.inr (some (331))))]) (st2 := [.inr (.inr (some (331)))]) rfl ?_
    refine sd_b_gr (k := 0) sd_o_331 rfl rfl rfl ?_
    refine sd_b_go 1 (pc2 := 54) (lv2 := [(0, .inr (.inr (some (331))))]) (st2 := [.inr (.inr (some (331))), .inr (.inr (some (332)))]) rfl ?_
    refine sd_b_gi (k := 8) sd_o_331 rfl rfl rfl ?_
    obtain ⟨g2, h⟩ := sd_if h
    refine sd_b_ab (sd_oa sd_o_331 (by decide) (off := 1) (List.mem_of_getElem? (i := 0) rfl)) (by decide) g2 rfl ?_
    refine sd_b_go 3 (pc2 := 66) (lv2 := [(0, .inr (.inr (some (331))))]) (st2 := [.inl (sd_and (M 332 (M 331 8).toNat) (255))]) rfl ?_
    cases h
    exact sd_b_rt rfl rfl rfl
def f_X10_see (M : sd_M) : Option (Int × sd_M) := f_X10_see_0 (f_X10_see_38) 4000 M
set_option maxRecDepth 4000 in
theorem t_X10_see {X : Nat → List sd_V → List sd_E → sd_A → Prop} {d : Nat} (hd : 0 ≤ d) (M : sd_M) (Rr : Int × sd_M) (h : f_X10_see M = some Rr) : sd_B X d sd_q_X10_see 0 [(0, .inr (.inr (some (331))))] [] M (some (.inl Rr.1), sd_rp Rr.2, 0, 0) := by
  unfold f_X10_see at h
  refine sd_b_wk [(0, .inr (.inr (some (331))))] (List.forall_mem_cons.mpr ⟨rfl, (fun _ h0 => absurd h0 List.not_mem_nil)⟩) ?_
  exact t_X10_see_0 hd (f_X10_see_38) (t_X10_see_38 hd) 4000 M _ h
theorem m_X10_see {X : Nat → List sd_V → List sd_E → sd_A → Prop} {d : Nat} (hd : 1 ≤ d) {M : sd_M} {Rr : Int × sd_M} (h : f_X10_see M = some Rr) : sd_Cal X d 136 [.inr (.inr (some (331)))] (sd_rp M) (some (.inl Rr.1), sd_rp Rr.2, 0, 0) := by
  obtain ⟨d, rfl⟩ : ∃ d2, d = d2 + 1 := ⟨d - 1, by omega⟩
  exact sd_cal_of sd_i_X10_see (Nat.le_of_ble_eq_true rfl) (t_X10_see (by omega) M Rr h)
-- X10_isDigit
def sd_q_X10_isDigit : sd_MI := (yX10_isDigit, cX10_isDigit, 2, (some .boolean), 10, 1, sd_t_X10_isDigit)
set_option maxRecDepth 4000 in
theorem sd_i_X10_isDigit : sd_mL[137]? = some sd_q_X10_isDigit := rfl
def f_X10_isDigit (p1 : Int) (M : sd_M) : Option (Int × sd_M) := if (M 331 1) ≤ p1 then (some (0, M)) else (if 0 ≤ p1 ∧ p1 < 400 then (if (M 332 p1.toNat) < 48 then (some (0, M)) else (if 0 ≤ p1 ∧ p1 < 400 then (if 57 < (M 332 p1.toNat) then (some (0, M)) else (some (1, M))) else none)) else none)
set_option maxRecDepth 4000 in
theorem t_X10_isDigit {X : Nat → List sd_V → List sd_E → sd_A → Prop} {d : Nat} (hd : 0 ≤ d) (p1 : Int) (M : sd_M) (Rr : Int × sd_M) (h : f_X10_isDigit p1 M = some Rr) : sd_B X d sd_q_X10_isDigit 0 [(0, .inr (.inr (some (331)))), (1, .inl (p1))] [] M (some (.inl Rr.1), sd_rp Rr.2, 0, 0) := by
  unfold f_X10_isDigit at h
  refine sd_b_go 2 (pc2 := 2) (lv2 := [(0, .inr (.inr (some (331)))), (1, .inl (p1))]) (st2 := [.inr (.inr (some (331))), .inl (p1)]) rfl ?_
  refine sd_b_gi (k := 1) sd_o_331 rfl rfl rfl ?_
  by_cases c1 : (M 331 1) ≤ p1
  · rw [if_pos c1] at h
    refine sd_b_ct (c := .ge) (tgt := 34) rfl (decide_eq_true c1) (by decide) ?_
    refine sd_b_go 1 (pc2 := 35) (lv2 := [(0, .inr (.inr (some (331)))), (1, .inl (p1))]) (st2 := [.inl (0)]) rfl ?_
    cases h
    exact sd_b_rt rfl rfl rfl
  · rw [if_neg c1] at h
    refine sd_b_cf (c := .ge) rfl (decide_eq_false c1) (by decide) ?_
    refine sd_b_go 1 (pc2 := 9) (lv2 := [(0, .inr (.inr (some (331)))), (1, .inl (p1))]) (st2 := [.inr (.inr (some (331)))]) rfl ?_
    refine sd_b_gr (k := 0) sd_o_331 rfl rfl rfl ?_
    refine sd_b_go 1 (pc2 := 13) (lv2 := [(0, .inr (.inr (some (331)))), (1, .inl (p1))]) (st2 := [.inl (p1), .inr (.inr (some (332)))]) rfl ?_
    obtain ⟨g2, h⟩ := sd_if h
    refine sd_b_ab (sd_oa sd_o_331 (by decide) (off := 1) (List.mem_of_getElem? (i := 0) rfl)) (by decide) g2 rfl ?_
    refine sd_b_go 1 (pc2 := 16) (lv2 := [(0, .inr (.inr (some (331)))), (1, .inl (p1))]) (st2 := [.inl (48), .inl (M 332 p1.toNat)]) rfl ?_
    by_cases c3 : (M 332 p1.toNat) < 48
    · rw [if_pos c3] at h
      refine sd_b_ct (c := .lt) (tgt := 34) rfl (decide_eq_true c3) (by decide) ?_
      refine sd_b_go 1 (pc2 := 35) (lv2 := [(0, .inr (.inr (some (331)))), (1, .inl (p1))]) (st2 := [.inl (0)]) rfl ?_
      cases h
      exact sd_b_rt rfl rfl rfl
    · rw [if_neg c3] at h
      refine sd_b_cf (c := .lt) rfl (decide_eq_false c3) (by decide) ?_
      refine sd_b_go 1 (pc2 := 20) (lv2 := [(0, .inr (.inr (some (331)))), (1, .inl (p1))]) (st2 := [.inr (.inr (some (331)))]) rfl ?_
      refine sd_b_gr (k := 0) sd_o_331 rfl rfl rfl ?_
      refine sd_b_go 1 (pc2 := 24) (lv2 := [(0, .inr (.inr (some (331)))), (1, .inl (p1))]) (st2 := [.inl (p1), .inr (.inr (some (332)))]) rfl ?_
      obtain ⟨g4, h⟩ := sd_if h
      refine sd_b_ab (sd_oa sd_o_331 (by decide) (off := 1) (List.mem_of_getElem? (i := 0) rfl)) (by decide) g4 rfl ?_
      refine sd_b_go 1 (pc2 := 27) (lv2 := [(0, .inr (.inr (some (331)))), (1, .inl (p1))]) (st2 := [.inl (57), .inl (M 332 p1.toNat)]) rfl ?_
      by_cases c5 : 57 < (M 332 p1.toNat)
      · rw [if_pos c5] at h
        refine sd_b_ct (c := .gt) (tgt := 34) rfl (decide_eq_true c5) (by decide) ?_
        refine sd_b_go 1 (pc2 := 35) (lv2 := [(0, .inr (.inr (some (331)))), (1, .inl (p1))]) (st2 := [.inl (0)]) rfl ?_
        cases h
        exact sd_b_rt rfl rfl rfl
      · rw [if_neg c5] at h
        refine sd_b_cf (c := .gt) rfl (decide_eq_false c5) (by decide) ?_
        refine sd_b_go 2 (pc2 := 35) (lv2 := [(0, .inr (.inr (some (331)))), (1, .inl (p1))]) (st2 := [.inl (1)]) rfl ?_
        cases h
        exact sd_b_rt rfl rfl rfl
theorem m_X10_isDigit {X : Nat → List sd_V → List sd_E → sd_A → Prop} {d : Nat} (hd : 1 ≤ d) {p1 : Int} {M : sd_M} {Rr : Int × sd_M} (h : f_X10_isDigit p1 M = some Rr) : sd_Cal X d 137 [.inr (.inr (some (331))), .inl (p1)] (sd_rp M) (some (.inl Rr.1), sd_rp Rr.2, 0, 0) := by
  obtain ⟨d, rfl⟩ : ∃ d2, d = d2 + 1 := ⟨d - 1, by omega⟩
  exact sd_cal_of sd_i_X10_isDigit (Nat.le_of_ble_eq_true rfl) (t_X10_isDigit (by omega) p1 M Rr h)
-- X10_isLetter
def sd_q_X10_isLetter : sd_MI := (yX10_isLetter, cX10_isLetter, 2, (some .boolean), 10, 1, sd_t_X10_isLetter)
set_option maxRecDepth 4000 in
theorem sd_i_X10_isLetter : sd_mL[138]? = some sd_q_X10_isLetter := rfl
def f_X10_isLetter (p1 : Int) (M : sd_M) : Option (Int × sd_M) := if (M 331 1) ≤ p1 then (some (0, M)) else (if 0 ≤ p1 ∧ p1 < 400 then (if (M 332 p1.toNat) < 97 then (some (0, M)) else (if 0 ≤ p1 ∧ p1 < 400 then (if 122 < (M 332 p1.toNat) then (some (0, M)) else (some (1, M))) else none)) else none)
set_option maxRecDepth 4000 in
theorem t_X10_isLetter {X : Nat → List sd_V → List sd_E → sd_A → Prop} {d : Nat} (hd : 0 ≤ d) (p1 : Int) (M : sd_M) (Rr : Int × sd_M) (h : f_X10_isLetter p1 M = some Rr) : sd_B X d sd_q_X10_isLetter 0 [(0, .inr (.inr (some (331)))), (1, .inl (p1))] [] M (some (.inl Rr.1), sd_rp Rr.2, 0, 0) := by
  unfold f_X10_isLetter at h
  refine sd_b_go 2 (pc2 := 2) (lv2 := [(0, .inr (.inr (some (331)))), (1, .inl (p1))]) (st2 := [.inr (.inr (some (331))), .inl (p1)]) rfl ?_
  refine sd_b_gi (k := 1) sd_o_331 rfl rfl rfl ?_
  by_cases c1 : (M 331 1) ≤ p1
  · rw [if_pos c1] at h
    refine sd_b_ct (c := .ge) (tgt := 34) rfl (decide_eq_true c1) (by decide) ?_
    refine sd_b_go 1 (pc2 := 35) (lv2 := [(0, .inr (.inr (some (331)))), (1, .inl (p1))]) (st2 := [.inl (0)]) rfl ?_
    cases h
    exact sd_b_rt rfl rfl rfl
  · rw [if_neg c1] at h
    refine sd_b_cf (c := .ge) rfl (decide_eq_false c1) (by decide) ?_
    refine sd_b_go 1 (pc2 := 9) (lv2 := [(0, .inr (.inr (some (331)))), (1, .inl (p1))]) (st2 := [.inr (.inr (some (331)))]) rfl ?_
    refine sd_b_gr (k := 0) sd_o_331 rfl rfl rfl ?_
    refine sd_b_go 1 (pc2 := 13) (lv2 := [(0, .inr (.inr (some (331)))), (1, .inl (p1))]) (st2 := [.inl (p1), .inr (.inr (some (332)))]) rfl ?_
    obtain ⟨g2, h⟩ := sd_if h
    refine sd_b_ab (sd_oa sd_o_331 (by decide) (off := 1) (List.mem_of_getElem? (i := 0) rfl)) (by decide) g2 rfl ?_
    refine sd_b_go 1 (pc2 := 16) (lv2 := [(0, .inr (.inr (some (331)))), (1, .inl (p1))]) (st2 := [.inl (97), .inl (M 332 p1.toNat)]) rfl ?_
    by_cases c3 : (M 332 p1.toNat) < 97
    · rw [if_pos c3] at h
      refine sd_b_ct (c := .lt) (tgt := 34) rfl (decide_eq_true c3) (by decide) ?_
      refine sd_b_go 1 (pc2 := 35) (lv2 := [(0, .inr (.inr (some (331)))), (1, .inl (p1))]) (st2 := [.inl (0)]) rfl ?_
      cases h
      exact sd_b_rt rfl rfl rfl
    · rw [if_neg c3] at h
      refine sd_b_cf (c := .lt) rfl (decide_eq_false c3) (by decide) ?_
      refine sd_b_go 1 (pc2 := 20) (lv2 := [(0, .inr (.inr (some (331)))), (1, .inl (p1))]) (st2 := [.inr (.inr (some (331)))]) rfl ?_
      refine sd_b_gr (k := 0) sd_o_331 rfl rfl rfl ?_
      refine sd_b_go 1 (pc2 := 24) (lv2 := [(0, .inr (.inr (some (331)))), (1, .inl (p1))]) (st2 := [.inl (p1), .inr (.inr (some (332)))]) rfl ?_
      obtain ⟨g4, h⟩ := sd_if h
      refine sd_b_ab (sd_oa sd_o_331 (by decide) (off := 1) (List.mem_of_getElem? (i := 0) rfl)) (by decide) g4 rfl ?_
      refine sd_b_go 1 (pc2 := 27) (lv2 := [(0, .inr (.inr (some (331)))), (1, .inl (p1))]) (st2 := [.inl (122), .inl (M 332 p1.toNat)]) rfl ?_
      by_cases c5 : 122 < (M 332 p1.toNat)
      · rw [if_pos c5] at h
        refine sd_b_ct (c := .gt) (tgt := 34) rfl (decide_eq_true c5) (by decide) ?_
        refine sd_b_go 1 (pc2 := 35) (lv2 := [(0, .inr (.inr (some (331)))), (1, .inl (p1))]) (st2 := [.inl (0)]) rfl ?_
        cases h
        exact sd_b_rt rfl rfl rfl
      · rw [if_neg c5] at h
        refine sd_b_cf (c := .gt) rfl (decide_eq_false c5) (by decide) ?_
        refine sd_b_go 2 (pc2 := 35) (lv2 := [(0, .inr (.inr (some (331)))), (1, .inl (p1))]) (st2 := [.inl (1)]) rfl ?_
        cases h
        exact sd_b_rt rfl rfl rfl
theorem m_X10_isLetter {X : Nat → List sd_V → List sd_E → sd_A → Prop} {d : Nat} (hd : 1 ≤ d) {p1 : Int} {M : sd_M} {Rr : Int × sd_M} (h : f_X10_isLetter p1 M = some Rr) : sd_Cal X d 138 [.inr (.inr (some (331))), .inl (p1)] (sd_rp M) (some (.inl Rr.1), sd_rp Rr.2, 0, 0) := by
  obtain ⟨d, rfl⟩ : ∃ d2, d = d2 + 1 := ⟨d - 1, by omega⟩
  exact sd_cal_of sd_i_X10_isLetter (Nat.le_of_ble_eq_true rfl) (t_X10_isLetter (by omega) p1 M Rr h)
-- X10_isWord
def sd_q_X10_isWord : sd_MI := (yX10_isWord, cX10_isWord, 6, (some .boolean), 10, 1, sd_t_X10_isWord)
set_option maxRecDepth 4000 in
theorem sd_i_X10_isWord : sd_mL[139]? = some sd_q_X10_isWord := rfl
def f_X10_isWord_50 (k10 : Int → Int → Int → sd_M → Option (Int × sd_M)) (k56 : Int → Int → Int → sd_M → Option (Int × sd_M)) (v1 : Int) (v3 : Int) (v5 : Int) (M : sd_M) : Option (Int × sd_M) := k10 v1 v3 (sd_w (v5 + 1)) M
set_option maxRecDepth 4000 in
theorem t_X10_isWord_50 {X : Nat → List sd_V → List sd_E → sd_A → Prop} {d : Nat} (hd : 1 ≤ d) (k10 : Int → Int → Int → sd_M → Option (Int × sd_M)) (k56 : Int → Int → Int → sd_M → Option (Int × sd_M)) (hk10 : ∀ (v1 : Int) (v3 : Int) (v5 : Int) (M : sd_M) (Rr : Int × sd_M), k10 v1 v3 v5 M = some Rr → sd_B X d sd_q_X10_isWord 10 [(0, .inr (.inr (some (331)))), (1, .inr (.inl (v1))), (3, .inr (.inl (v3))), (5, .inl (v5))] [] M (some (.inl Rr.1), sd_rp Rr.2, 0, 0)) (hk56 : ∀ (v1 : Int) (v3 : Int) (v5 : Int) (M : sd_M) (Rr : Int × sd_M), k56 v1 v3 v5 M = some Rr → sd_B X d sd_q_X10_isWord 56 [(1, .inr (.inl (v1))), (3, .inr (.inl (v3))), (5, .inl (v5))] [] M (some (.inl Rr.1), sd_rp Rr.2, 0, 0)) (v1 : Int) (v3 : Int) (v5 : Int) (M : sd_M) (Rr : Int × sd_M) (h : f_X10_isWord_50 k10 k56 v1 v3 v5 M = some Rr) : sd_B X d sd_q_X10_isWord 50 [(0, .inr (.inr (some (331)))), (1, .inr (.inl (v1))), (3, .inr (.inl (v3))), (5, .inl (v5))] [] M (some (.inl Rr.1), sd_rp Rr.2, 0, 0) := by
  unfold f_X10_isWord_50 at h
  refine sd_b_go 2 (pc2 := 10) (lv2 := [(5, .inl (sd_w (v5 + 1))), (0, .inr (.inr (some (331)))), (1, .inr (.inl (v1))), (3, .inr (.inl (v3)))]) (st2 := []) rfl ?_
  refine sd_b_wk [(0, .inr (.inr (some (331)))), (1, .inr (.inl (v1))), (3, .inr (.inl (v3))), (5, .inl (sd_w (v5 + 1)))] (List.forall_mem_cons.mpr ⟨rfl, (List.forall_mem_cons.mpr ⟨rfl, (List.forall_mem_cons.mpr ⟨rfl, (List.forall_mem_cons.mpr ⟨rfl, (fun _ h0 => absurd h0 List.not_mem_nil)⟩)⟩)⟩)⟩) ?_
  exact hk10 v1 v3 (sd_w (v5 + 1)) M _ h
def f_X10_isWord_10 (k56 : Int → Int → Int → sd_M → Option (Int × sd_M)) : Nat → Int → Int → Int → sd_M → Option (Int × sd_M)
  | 0, _, _, _, _ => none
  | n + 1, v1, v3, v5, M => (f_X10_isLetter (sd_w ((M 331 8) + v5)) M).bind fun r1 => if r1.1 = 0 then (k56 v1 v3 v5 r1.2) else (if 8 ≤ v5 then (f_X10_isWord_50 (f_X10_isWord_10 k56 n) k56 v1 v3 v5 r1.2) else (if 0 ≤ (sd_w ((r1.2 331 8) + v5)) ∧ (sd_w ((r1.2 331 8) + v5)) < 400 then (f_X10_isWord_50 (f_X10_isWord_10 k56 n) k56 v1 (sd_lorl (sd_lshl v3 8) ((r1.2) 332 (sd_w ((r1.2 331 8) + v5)).toNat)) v5 r1.2) else none))
set_option maxRecDepth 4000 in
theorem t_X10_isWord_10 {X : Nat → List sd_V → List sd_E → sd_A → Prop} {d : Nat} (hd : 1 ≤ d) (k56 : Int → Int → Int → sd_M → Option (Int × sd_M)) (hk56 : ∀ (v1 : Int) (v3 : Int) (v5 : Int) (M : sd_M) (Rr : Int × sd_M), k56 v1 v3 v5 M = some Rr → sd_B X d sd_q_X10_isWord 56 [(1, .inr (.inl (v1))), (3, .inr (.inl (v3))), (5, .inl (v5))] [] M (some (.inl Rr.1), sd_rp Rr.2, 0, 0)) : ∀ (n : Nat) (v1 : Int) (v3 : Int) (v5 : Int) (M : sd_M) (Rr : Int × sd_M), f_X10_isWord_10 k56 n v1 v3 v5 M = some Rr → sd_B X d sd_q_X10_isWord 10 [(0, .inr (.inr (some (331)))), (1, .inr (.inl (v1))), (3, .inr (.inl (v3))), (5, .inl (v5))] [] M (some (.inl Rr.1), sd_rp Rr.2, 0, 0) := by
  intro n
  induction n with
  | zero => intro v1 v3 v5 M Rr h; cases h
  | succ n ih =>
    intro v1 v3 v5 M Rr h
    rw [f_X10_isWord_10] at h
    refine sd_b_go 2 (pc2 := 12) (lv2 := [(0, .inr (.inr (some (331)))), (1, .inr (.inl (v1))), (3, .inr (.inl (v3))), (5, .inl (v5))]) (st2 := [.inr (.inr (some (331))), .inr (.inr (some (331)))]) rfl ?_
    refine sd_b_gi (k := 8) sd_o_331 rfl rfl rfl ?_
    refine sd_b_go 2 (pc2 := 18) (lv2 := [(0, .inr (.inr (some (331)))), (1, .inr (.inl (v1))), (3, .inr (.inl (v3))), (5, .inl (v5))]) (st2 := [.inl (sd_w ((M 331 8) + v5)), .inr (.inr (some (331)))]) rfl ?_
    obtain ⟨r1, e1, h⟩ := sd_bnd h
    refine sd_b_call [.inr (.inr (some (331))), .inl (sd_w ((M 331 8) + v5))] [] rfl rfl sd_i_X10_isLetter rfl rfl (Nat.le_of_ble_eq_true rfl) (sd_rc_v sd_o_331) (m_X10_isLetter (by omega) e1) ?_
    by_cases c2 : r1.1 = 0
    · rw [if_pos c2] at h
      refine sd_b_zt (c := .eq) (tgt := 56) rfl (decide_eq_true c2) (by decide) ?_
      refine sd_b_wk [(1, .inr (.inl (v1))), (3, .inr (.inl (v3))), (5, .inl (v5))] (List.forall_mem_cons.mpr ⟨rfl, (List.forall_mem_cons.mpr ⟨rfl, (List.forall_mem_cons.mpr ⟨rfl, (fun _ h0 => absurd h0 List.not_mem_nil)⟩)⟩)⟩) ?_
      exact hk56 v1 v3 v5 r1.2 _ h
    · rw [if_neg c2] at h
      refine sd_b_zf (c := .eq) rfl (decide_eq_false c2) (by decide) ?_
      refine sd_b_go 2 (pc2 := 28) (lv2 := [(0, .inr (.inr (some (331)))), (1, .inr (.inl (v1))), (3, .inr (.inl (v3))), (5, .inl (v5))]) (st2 := [.inl (8), .inl (v5)]) rfl ?_
      by_cases c3 : 8 ≤ v5
      · rw [if_pos c3] at h
        refine sd_b_ct (c := .ge) (tgt := 50) rfl (decide_eq_true c3) (by decide) ?_
        refine sd_b_wk [(0, .inr (.inr (some (331)))), (1, .inr (.inl (v1))), (3, .inr (.inl (v3))), (5, .inl (v5))] (List.forall_mem_cons.mpr ⟨rfl, (List.forall_mem_cons.mpr ⟨rfl, (List.forall_mem_cons.mpr ⟨rfl, (List.forall_mem_cons.mpr ⟨rfl, (fun _ h0 => absurd h0 List.not_mem_nil)⟩)⟩)⟩)⟩) ?_
        exact t_X10_isWord_50 hd (f_X10_isWord_10 k56 n) k56 ih hk56 v1 v3 v5 r1.2 _ h
      · rw [if_neg c3] at h
        refine sd_b_cf (c := .ge) rfl (decide_eq_false c3) (by decide) ?_
        refine sd_b_go 4 (pc2 := 36) (lv2 := [(0, .inr (.inr (some (331)))), (1, .inr (.inl (v1))), (3, .inr (.inl (v3))), (5, .inl (v5))]) (st2 := [.inr (.inr (some (331))), .inr (.inl (sd_lshl v3 8))]) rfl ?_
        refine sd_b_gr (k := 0) sd_o_331 rfl rfl rfl ?_
        refine sd_b_go 1 (pc2 := 40) (lv2 := [(0, .inr (.inr (some (331)))), (1, .inr (.inl (v1))), (3, .inr (.inl (v3))), (5, .inl (v5))]) (st2 := [.inr (.inr (some (331))), .inr (.inr (some (332))), .inr (.inl (sd_lshl v3 8))]) rfl ?_
        refine sd_b_gi (k := 8) sd_o_331 rfl rfl rfl ?_
        refine sd_b_go 2 (pc2 := 46) (lv2 := [(0, .inr (.inr (some (331)))), (1, .inr (.inl (v1))), (3, .inr (.inl (v3))), (5, .inl (v5))]) (st2 := [.inl (sd_w ((r1.2 331 8) + v5)), .inr (.inr (some (332))), .inr (.inl (sd_lshl v3 8))]) rfl ?_
        obtain ⟨g4, h⟩ := sd_if h
        refine sd_b_ab (sd_oa sd_o_331 (by decide) (off := 1) (List.mem_of_getElem? (i := 0) rfl)) (by decide) g4 rfl ?_
        refine sd_b_go 3 (pc2 := 50) (lv2 := [(3, .inr (.inl (sd_lorl (sd_lshl v3 8) ((r1.2) 332 (sd_w ((r1.2 331 8) + v5)).toNat)))), (0, .inr (.inr (some (331)))), (1, .inr (.inl (v1))), (5, .inl (v5))]) (st2 := []) rfl ?_
        refine sd_b_wk [(0, .inr (.inr (some (331)))), (1, .inr (.inl (v1))), (3, .inr (.inl (sd_lorl (sd_lshl v3 8) ((r1.2) 332 (sd_w ((r1.2 331 8) + v5)).toNat)))), (5, .inl (v5))] (List.forall_mem_cons.mpr ⟨rfl, (List.forall_mem_cons.mpr ⟨rfl, (List.forall_mem_cons.mpr ⟨rfl, (List.forall_mem_cons.mpr ⟨rfl, (fun _ h0 => absurd h0 List.not_mem_nil)⟩)⟩)⟩)⟩) ?_
        exact t_X10_isWord_50 hd (f_X10_isWord_10 k56 n) k56 ih hk56 v1 (sd_lorl (sd_lshl v3 8) ((r1.2) 332 (sd_w ((r1.2 331 8) + v5)).toNat)) v5 r1.2 _ h
def f_X10_isWord_56 (v1 : Int) (v3 : Int) (v5 : Int) (M : sd_M) : Option (Int × sd_M) := if v5 ≤ 0 then (some (0, M)) else (if 8 ≤ v5 then (some (0, M)) else (if (sd_cmpl v3 v1) = 0 then (some (1, M)) else (some (0, M))))
set_option maxRecDepth 4000 in
theorem t_X10_isWord_56 {X : Nat → List sd_V → List sd_E → sd_A → Prop} {d : Nat} (hd : 1 ≤ d) (v1 : Int) (v3 : Int) (v5 : Int) (M : sd_M) (Rr : Int × sd_M) (h : f_X10_isWord_56 v1 v3 v5 M = some Rr) : sd_B X d sd_q_X10_isWord 56 [(1, .inr (.inl (v1))), (3, .inr (.inl (v3))), (5, .inl (v5))] [] M (some (.inl Rr.1), sd_rp Rr.2, 0, 0) := by
  unfold f_X10_isWord_56 at h
  refine sd_b_go 1 (pc2 := 58) (lv2 := [(1, .inr (.inl (v1))), (3, .inr (.inl (v3))), (5, .inl (v5))]) (st2 := [.inl (v5)]) rfl ?_
  by_cases c1 : v5 ≤ 0
  · rw [if_pos c1] at h
    refine sd_b_zt (c := .le) (tgt := 78) rfl (decide_eq_true c1) (by decide) ?_
    refine sd_b_go 1 (pc2 := 79) (lv2 := [(1, .inr (.inl (v1))), (3, .inr (.inl (v3))), (5, .inl (v5))]) (st2 := [.inl (0)]) rfl ?_
    cases h
    exact sd_b_rt rfl rfl rfl
  · rw [if_neg c1] at h
    refine sd_b_zf (c := .le) rfl (decide_eq_false c1) (by decide) ?_
    refine sd_b_go 2 (pc2 := 65) (lv2 := [(1, .inr (.inl (v1))), (3, .inr (.inl (v3))), (5, .inl (v5))]) (st2 := [.inl (8), .inl (v5)]) rfl ?_
    by_cases c2 : 8 ≤ v5
    · rw [if_pos c2] at h
      refine sd_b_ct (c := .ge) (tgt := 78) rfl (decide_eq_true c2) (by decide) ?_
      refine sd_b_go 1 (pc2 := 79) (lv2 := [(1, .inr (.inl (v1))), (3, .inr (.inl (v3))), (5, .inl (v5))]) (st2 := [.inl (0)]) rfl ?_
      cases h
      exact sd_b_rt rfl rfl rfl
    · rw [if_neg c2] at h
      refine sd_b_cf (c := .ge) rfl (decide_eq_false c2) (by decide) ?_
      refine sd_b_go 3 (pc2 := 71) (lv2 := [(1, .inr (.inl (v1))), (3, .inr (.inl (v3))), (5, .inl (v5))]) (st2 := [.inl (sd_cmpl v3 v1)]) rfl ?_
      by_cases c3 : (sd_cmpl v3 v1) = 0
      · rw [if_pos c3] at h
        refine sd_b_zf (c := .ne) rfl (decide_eq_false (not_not_intro c3)) (by decide) ?_
        refine sd_b_go 2 (pc2 := 79) (lv2 := [(1, .inr (.inl (v1))), (3, .inr (.inl (v3))), (5, .inl (v5))]) (st2 := [.inl (1)]) rfl ?_
        cases h
        exact sd_b_rt rfl rfl rfl
      · rw [if_neg c3] at h
        refine sd_b_zt (c := .ne) (tgt := 78) rfl (decide_eq_true c3) (by decide) ?_
        refine sd_b_go 1 (pc2 := 79) (lv2 := [(1, .inr (.inl (v1))), (3, .inr (.inl (v3))), (5, .inl (v5))]) (st2 := [.inl (0)]) rfl ?_
        cases h
        exact sd_b_rt rfl rfl rfl
def f_X10_isWord (p1 : Int) (M : sd_M) : Option (Int × sd_M) := (f_X10_see M).bind fun r1 => f_X10_isWord_10 (f_X10_isWord_56) 4000 p1 0 0 r1.2
set_option maxRecDepth 4000 in
theorem t_X10_isWord {X : Nat → List sd_V → List sd_E → sd_A → Prop} {d : Nat} (hd : 1 ≤ d) (p1 : Int) (M : sd_M) (Rr : Int × sd_M) (h : f_X10_isWord p1 M = some Rr) : sd_B X d sd_q_X10_isWord 0 [(0, .inr (.inr (some (331)))), (1, .inr (.inl (p1)))] [] M (some (.inl Rr.1), sd_rp Rr.2, 0, 0) := by
  unfold f_X10_isWord at h
  refine sd_b_go 1 (pc2 := 1) (lv2 := [(0, .inr (.inr (some (331)))), (1, .inr (.inl (p1)))]) (st2 := [.inr (.inr (some (331)))]) rfl ?_
  obtain ⟨r1, e1, h⟩ := sd_bnd h
  refine sd_b_call [.inr (.inr (some (331)))] [] rfl rfl sd_i_X10_see rfl rfl (Nat.le_of_ble_eq_true rfl) (sd_rc_v sd_o_331) (m_X10_see (by omega) e1) ?_
  refine sd_b_go 5 (pc2 := 10) (lv2 := [(5, .inl (0)), (3, .inr (.inl (0))), (0, .inr (.inr (some (331)))), (1, .inr (.inl (p1)))]) (st2 := []) rfl ?_
  refine sd_b_wk [(0, .inr (.inr (some (331)))), (1, .inr (.inl (p1))), (3, .inr (.inl (0))), (5, .inl (0))] (List.forall_mem_cons.mpr ⟨rfl, (List.forall_mem_cons.mpr ⟨rfl, (List.forall_mem_cons.mpr ⟨rfl, (List.forall_mem_cons.mpr ⟨rfl, (fun _ h0 => absurd h0 List.not_mem_nil)⟩)⟩)⟩)⟩) ?_
  exact t_X10_isWord_10 hd (f_X10_isWord_56) (t_X10_isWord_56 hd) 4000 p1 0 0 r1.2 _ h
theorem m_X10_isWord {X : Nat → List sd_V → List sd_E → sd_A → Prop} {d : Nat} (hd : 2 ≤ d) {p1 : Int} {M : sd_M} {Rr : Int × sd_M} (h : f_X10_isWord p1 M = some Rr) : sd_Cal X d 139 [.inr (.inr (some (331))), .inr (.inl (p1))] (sd_rp M) (some (.inl Rr.1), sd_rp Rr.2, 0, 0) := by
  obtain ⟨d, rfl⟩ : ∃ d2, d = d2 + 1 := ⟨d - 1, by omega⟩
  exact sd_cal_of sd_i_X10_isWord (Nat.le_of_ble_eq_true rfl) (t_X10_isWord (by omega) p1 M Rr h)
-- X10_passWord
def sd_q_X10_passWord : sd_MI := (yX10_passWord, cX10_passWord, 1, none, 10, 0, sd_t_X10_passWord)
set_option maxRecDepth 4000 in
theorem sd_i_X10_passWord : sd_mL[140]? = some sd_q_X10_passWord := rfl
def f_X10_passWord_0 : Nat → sd_M → Option (Int × sd_M)
  | 0, _ => none
  | n + 1, M => (f_X10_isLetter (M 331 8) M).bind fun r1 => if r1.1 = 0 then (some (0, r1.2)) else (f_X10_passWord_0 n (sd_s r1.2 331 8 (sd_w ((r1.2 331 8) + 1))))
set_option maxRecDepth 4000 in
theorem t_X10_passWord_0 {X : Nat → List sd_V → List sd_E → sd_A → Prop} {d : Nat} (hd : 1 ≤ d) : ∀ (n : Nat) (M : sd_M) (Rr : Int × sd_M), f_X10_passWord_0 n M = some Rr → sd_B X d sd_q_X10_passWord 0 [(0, .inr (.inr (some (331))))] [] M (none, sd_rp Rr.2, 0, 0) := by
  intro n
  induction n with
  | zero => intro M Rr h; cases h
  | succ n ih =>
    intro M Rr h
    rw [f_X10_passWord_0] at h
    refine sd_b_go 2 (pc2 := 2) (lv2 := [(0, .inr (.inr (some (331))))]) (st2 := [.inr (.inr (some (331))), .inr (.inr (some (331)))]) rfl ?_
    refine sd_b_gi (k := 8) sd_o_331 rfl rfl rfl ?_
    obtain ⟨r1, e1, h⟩ := sd_bnd h
    refine sd_b_call [.inr (.inr (some (331))), .inl (M 331 8)] [] rfl rfl sd_i_X10_isLetter rfl rfl (Nat.le_of_ble_eq_true rfl) (sd_rc_v sd_o_331) (m_X10_isLetter (by omega) e1) ?_
    by_cases c2 : r1.1 = 0
    · rw [if_pos c2] at h
      refine sd_b_zt (c := .eq) (tgt := 24) rfl (decide_eq_true c2) (by decide) ?_
      cases h
      exact sd_b_rt rfl rfl rfl
    · rw [if_neg c2] at h
      refine sd_b_zf (c := .eq) rfl (decide_eq_false c2) (by decide) ?_
      refine sd_b_go 2 (pc2 := 13) (lv2 := [(0, .inr (.inr (some (331))))]) (st2 := [.inr (.inr (some (331))), .inr (.inr (some (331)))]) rfl ?_
      refine sd_b_gi (k := 8) sd_o_331 rfl rfl rfl ?_
      refine sd_b_go 2 (pc2 := 18) (lv2 := [(0, .inr (.inr (some (331))))]) (st2 := [.inl (sd_w ((r1.2 331 8) + 1)), .inr (.inr (some (331)))]) rfl ?_
      refine sd_b_pi (k := 8) sd_o_331 rfl rfl rfl rfl rfl ?_
      refine sd_b_go 1 (pc2 := 0) (lv2 := [(0, .inr (.inr (some (331))))]) (st2 := []) rfl ?_
      refine sd_b_wk [(0, .inr (.inr (some (331))))] (List.forall_mem_cons.mpr ⟨rfl, (fun _ h0 => absurd h0 List.not_mem_nil)⟩) ?_
      exact ih (sd_s r1.2 331 8 (sd_w ((r1.2 331 8) + 1))) _ h
def f_X10_passWord (M : sd_M) : Option (Int × sd_M) := f_X10_passWord_0 4000 M
set_option maxRecDepth 4000 in
theorem t_X10_passWord {X : Nat → List sd_V → List sd_E → sd_A → Prop} {d : Nat} (hd : 1 ≤ d) (M : sd_M) (Rr : Int × sd_M) (h : f_X10_passWord M = some Rr) : sd_B X d sd_q_X10_passWord 0 [(0, .inr (.inr (some (331))))] [] M (none, sd_rp Rr.2, 0, 0) := by
  unfold f_X10_passWord at h
  refine sd_b_wk [(0, .inr (.inr (some (331))))] (List.forall_mem_cons.mpr ⟨rfl, (fun _ h0 => absurd h0 List.not_mem_nil)⟩) ?_
  exact t_X10_passWord_0 hd 4000 M _ h
theorem m_X10_passWord {X : Nat → List sd_V → List sd_E → sd_A → Prop} {d : Nat} (hd : 2 ≤ d) {M : sd_M} {Rr : Int × sd_M} (h : f_X10_passWord M = some Rr) : sd_Cal X d 140 [.inr (.inr (some (331)))] (sd_rp M) (none, sd_rp Rr.2, 0, 0) := by
  obtain ⟨d, rfl⟩ : ∃ d2, d = d2 + 1 := ⟨d - 1, by omega⟩
  exact sd_cal_of sd_i_X10_passWord (Nat.le_of_ble_eq_true rfl) (t_X10_passWord (by omega) M Rr h)
-- X10_takesWord
def sd_q_X10_takesWord : sd_MI := (yX10_takesWord, cX10_takesWord, 3, (some .boolean), 10, 1, sd_t_X10_takesWord)
set_option maxRecDepth 4000 in
theorem sd_i_X10_takesWord : sd_mL[141]? = some sd_q_X10_takesWord := rfl
def f_X10_takesWord (p1 : Int) (M : sd_M) : Option (Int × sd_M) := (f_X10_isWord p1 M).bind fun r1 => if r1.1 = 0 then (some (0, r1.2)) else ((f_X10_passWord r1.2).bind fun r3 => some (1, r3.2))
set_option maxRecDepth 4000 in
theorem t_X10_takesWord {X : Nat → List sd_V → List sd_E → sd_A → Prop} {d : Nat} (hd : 2 ≤ d) (p1 : Int) (M : sd_M) (Rr : Int × sd_M) (h : f_X10_takesWord p1 M = some Rr) : sd_B X d sd_q_X10_takesWord 0 [(0, .inr (.inr (some (331)))), (1, .inr (.inl (p1)))] [] M (some (.inl Rr.1), sd_rp Rr.2, 0, 0) := by
  unfold f_X10_takesWord at h
  refine sd_b_go 2 (pc2 := 2) (lv2 := [(0, .inr (.inr (some (331)))), (1, .inr (.inl (p1)))]) (st2 := [.inr (.inl (p1)), .inr (.inr (some (331)))]) rfl ?_
  obtain ⟨r1, e1, h⟩ := sd_bnd h
  refine sd_b_call [.inr (.inr (some (331))), .inr (.inl (p1))] [] rfl rfl sd_i_X10_isWord rfl rfl (Nat.le_of_ble_eq_true rfl) (sd_rc_v sd_o_331) (m_X10_isWord (by omega) e1) ?_
  by_cases c2 : r1.1 = 0
  · rw [if_pos c2] at h
    refine sd_b_zf (c := .ne) rfl (decide_eq_false (not_not_intro c2)) (by decide) ?_
    refine sd_b_go 1 (pc2 := 9) (lv2 := [(0, .inr (.inr (some (331)))), (1, .inr (.inl (p1)))]) (st2 := [.inl (0)]) rfl ?_
    cases h
    exact sd_b_rt rfl rfl rfl
  · rw [if_neg c2] at h
    refine sd_b_zt (c := .ne) (tgt := 10) rfl (decide_eq_true c2) (by decide) ?_
    refine sd_b_go 1 (pc2 := 11) (lv2 := [(0, .inr (.inr (some (331)))), (1, .inr (.inl (p1)))]) (st2 := [.inr (.inr (some (331)))]) rfl ?_
    obtain ⟨r3, e3, h⟩ := sd_bnd h
    refine sd_b_call [.inr (.inr (some (331)))] [] rfl rfl sd_i_X10_passWord rfl rfl (Nat.le_of_ble_eq_true rfl) (sd_rc_v sd_o_331) (m_X10_passWord (by omega) e3) ?_
    refine sd_b_go 1 (pc2 := 15) (lv2 := [(0, .inr (.inr (some (331)))), (1, .inr (.inl (p1)))]) (st2 := [.inl (1)]) rfl ?_
    cases h
    exact sd_b_rt rfl rfl rfl
theorem m_X10_takesWord {X : Nat → List sd_V → List sd_E → sd_A → Prop} {d : Nat} (hd : 3 ≤ d) {p1 : Int} {M : sd_M} {Rr : Int × sd_M} (h : f_X10_takesWord p1 M = some Rr) : sd_Cal X d 141 [.inr (.inr (some (331))), .inr (.inl (p1))] (sd_rp M) (some (.inl Rr.1), sd_rp Rr.2, 0, 0) := by
  obtain ⟨d, rfl⟩ : ∃ d2, d = d2 + 1 := ⟨d - 1, by omega⟩
  exact sd_cal_of sd_i_X10_takesWord (Nat.le_of_ble_eq_true rfl) (t_X10_takesWord (by omega) p1 M Rr h)
-- X10_numberHere
def sd_q_X10_numberHere : sd_MI := (yX10_numberHere, cX10_numberHere, 5, (some .boolean), 10, 2, sd_t_X10_numberHere)
set_option maxRecDepth 4000 in
theorem sd_i_X10_numberHere : sd_mL[142]? = some sd_q_X10_numberHere := rfl
def f_X10_numberHere_75 (k34 : Int → Int → Int → Int → sd_M → Option (Int × sd_M)) (k88 : Int → Int → Int → Int → sd_M → Option (Int × sd_M)) (v1 : Int) (v2 : Int) (v3 : Int) (v4 : Int) (M : sd_M) : Option (Int × sd_M) := k34 v1 v2 v3 v4 (sd_s M 331 8 (sd_w ((M 331 8) + 1)))
set_option maxRecDepth 4000 in
theorem t_X10_numberHere_75 {X : Nat → List sd_V → List sd_E → sd_A → Prop} {d : Nat} (hd : 1 ≤ d) (k34 : Int → Int → Int → Int → sd_M → Option (Int × sd_M)) (k88 : Int → Int → Int → Int → sd_M → Option (Int × sd_M)) (hk34 : ∀ (v1 : Int) (v2 : Int) (v3 : Int) (v4 : Int) (M : sd_M) (Rr : Int × sd_M), k34 v1 v2 v3 v4 M = some Rr → sd_B X d sd_q_X10_numberHere 34 [(0, .inr (.inr (some (331)))), (1, .inl (v1)), (2, .inl (v2)), (3, .inl (v3)), (4, .inl (v4))] [] M (some (.inl Rr.1), sd_rp Rr.2, 0, 0)) (hk88 : ∀ (v1 : Int) (v2 : Int) (v3 : Int) (v4 : Int) (M : sd_M) (Rr : Int × sd_M), k88 v1 v2 v3 v4 M = some Rr → sd_B X d sd_q_X10_numberHere 88 [(0, .inr (.inr (some (331)))), (1, .inl (v1)), (2, .inl (v2)), (3, .inl (v3)), (4, .inl (v4))] [] M (some (.inl Rr.1), sd_rp Rr.2, 0, 0)) (v1 : Int) (v2 : Int) (v3 : Int) (v4 : Int) (M : sd_M) (Rr : Int × sd_M) (h : f_X10_numberHere_75 k34 k88 v1 v2 v3 v4 M = some Rr) : sd_B X d sd_q_X10_numberHere 75 [(0, .inr (.inr (some (331)))), (1, .inl (v1)), (2, .inl (v2)), (3, .inl (v3)), (4, .inl (v4))] [] M (some (.inl Rr.1), sd_rp Rr.2, 0, 0) := by
  unfold f_X10_numberHere_75 at h
  refine sd_b_go 2 (pc2 := 77) (lv2 := [(0, .inr (.inr (some (331)))), (1, .inl (v1)), (2, .inl (v2)), (3, .inl (v3)), (4, .inl (v4))]) (st2 := [.inr (.inr (some (331))), .inr (.inr (some (331)))]) rfl ?_
  refine sd_b_gi (k := 8) sd_o_331 rfl rfl rfl ?_
  refine sd_b_go 2 (pc2 := 82) (lv2 := [(0, .inr (.inr (some (331)))), (1, .inl (v1)), (2, .inl (v2)), (3, .inl (v3)), (4, .inl (v4))]) (st2 := [.inl (sd_w ((M 331 8) + 1)), .inr (.inr (some (331)))]) rfl ?_
  refine sd_b_pi (k := 8) sd_o_331 rfl rfl rfl rfl rfl ?_
  refine sd_b_go 1 (pc2 := 34) (lv2 := [(0, .inr (.inr (some (331)))), (1, .inl (v1)), (2, .inl (v2)), (3, .inl (v3)), (4, .inl (v4))]) (st2 := []) rfl ?_
  refine sd_b_wk [(0, .inr (.inr (some (331)))), (1, .inl (v1)), (2, .inl (v2)), (3, .inl (v3)), (4, .inl (v4))] (List.forall_mem_cons.mpr ⟨rfl, (List.forall_mem_cons.mpr ⟨rfl, (List.forall_mem_cons.mpr ⟨rfl, (List.forall_mem_cons.mpr ⟨rfl, (List.forall_mem_cons.mpr ⟨rfl, (fun _ h0 => absurd h0 List.not_mem_nil)⟩)⟩)⟩)⟩)⟩) ?_
  exact hk34 v1 v2 v3 v4 (sd_s M 331 8 (sd_w ((M 331 8) + 1))) _ h
def f_X10_numberHere_34 (k88 : Int → Int → Int → Int → sd_M → Option (Int × sd_M)) : Nat → Int → Int → Int → Int → sd_M → Option (Int × sd_M)
  | 0, _, _, _, _, _ => none
  | n + 1, v1, v2, v3, v4, M => (f_X10_isDigit (M 331 8) M).bind fun r1 => if r1.1 = 0 then (k88 v1 v2 v3 v4 r1.2) else (if 5 ≤ (sd_w ((r1.2 331 8) - v3)) then (f_X10_numberHere_75 (f_X10_numberHere_34 k88 n) k88 v1 v2 v3 v4 r1.2) else (if 0 ≤ (r1.2 331 8) ∧ (r1.2 331 8) < 400 then (f_X10_numberHere_75 (f_X10_numberHere_34 k88 n) k88 v1 v2 v3 (sd_w ((sd_w ((sd_w (10 * v4)) + ((r1.2) 332 (r1.2 331 8).toNat))) - 48)) r1.2) else none))
set_option maxRecDepth 4000 in
theorem t_X10_numberHere_34 {X : Nat → List sd_V → List sd_E → sd_A → Prop} {d : Nat} (hd : 1 ≤ d) (k88 : Int → Int → Int → Int → sd_M → Option (Int × sd_M)) (hk88 : ∀ (v1 : Int) (v2 : Int) (v3 : Int) (v4 : Int) (M : sd_M) (Rr : Int × sd_M), k88 v1 v2 v3 v4 M = some Rr → sd_B X d sd_q_X10_numberHere 88 [(0, .inr (.inr (some (331)))), (1, .inl (v1)), (2, .inl (v2)), (3, .inl (v3)), (4, .inl (v4))] [] M (some (.inl Rr.1), sd_rp Rr.2, 0, 0)) : ∀ (n : Nat) (v1 : Int) (v2 : Int) (v3 : Int) (v4 : Int) (M : sd_M) (Rr : Int × sd_M), f_X10_numberHere_34 k88 n v1 v2 v3 v4 M = some Rr → sd_B X d sd_q_X10_numberHere 34 [(0, .inr (.inr (some (331)))), (1, .inl (v1)), (2, .inl (v2)), (3, .inl (v3)), (4, .inl (v4))] [] M (some (.inl Rr.1), sd_rp Rr.2, 0, 0) := by
  intro n
  induction n with
  | zero => intro v1 v2 v3 v4 M Rr h; cases h
  | succ n ih =>
    intro v1 v2 v3 v4 M Rr h
    rw [f_X10_numberHere_34] at h
    refine sd_b_go 2 (pc2 := 36) (lv2 := [(0, .inr (.inr (some (331)))), (1, .inl (v1)), (2, .inl (v2)), (3, .inl (v3)), (4, .inl (v4))]) (st2 := [.inr (.inr (some (331))), .inr (.inr (some (331)))]) rfl ?_
    refine sd_b_gi (k := 8) sd_o_331 rfl rfl rfl ?_
    obtain ⟨r1, e1, h⟩ := sd_bnd h
    refine sd_b_call [.inr (.inr (some (331))), .inl (M 331 8)] [] rfl rfl sd_i_X10_isDigit rfl rfl (Nat.le_of_ble_eq_true rfl) (sd_rc_v sd_o_331) (m_X10_isDigit (by omega) e1) ?_
    by_cases c2 : r1.1 = 0
    · rw [if_pos c2] at h
      refine sd_b_zt (c := .eq) (tgt := 88) rfl (decide_eq_true c2) (by decide) ?_
      refine sd_b_wk [(0, .inr (.inr (some (331)))), (1, .inl (v1)), (2, .inl (v2)), (3, .inl (v3)), (4, .inl (v4))] (List.forall_mem_cons.mpr ⟨rfl, (List.forall_mem_cons.mpr ⟨rfl, (List.forall_mem_cons.mpr ⟨rfl, (List.forall_mem_cons.mpr ⟨rfl, (List.forall_mem_cons.mpr ⟨rfl, (fun _ h0 => absurd h0 List.not_mem_nil)⟩)⟩)⟩)⟩)⟩) ?_
      exact hk88 v1 v2 v3 v4 r1.2 _ h
    · rw [if_neg c2] at h
      refine sd_b_zf (c := .eq) rfl (decide_eq_false c2) (by decide) ?_
      refine sd_b_go 1 (pc2 := 46) (lv2 := [(0, .inr (.inr (some (331)))), (1, .inl (v1)), (2, .inl (v2)), (3, .inl (v3)), (4, .inl (v4))]) (st2 := [.inr (.inr (some (331)))]) rfl ?_
      refine sd_b_gi (k := 8) sd_o_331 rfl rfl rfl ?_
      refine sd_b_go 3 (pc2 := 52) (lv2 := [(0, .inr (.inr (some (331)))), (1, .inl (v1)), (2, .inl (v2)), (3, .inl (v3)), (4, .inl (v4))]) (st2 := [.inl (5), .inl (sd_w ((r1.2 331 8) - v3))]) rfl ?_
      by_cases c3 : 5 ≤ (sd_w ((r1.2 331 8) - v3))
      · rw [if_pos c3] at h
        refine sd_b_ct (c := .ge) (tgt := 75) rfl (decide_eq_true c3) (by decide) ?_
        refine sd_b_wk [(0, .inr (.inr (some (331)))), (1, .inl (v1)), (2, .inl (v2)), (3, .inl (v3)), (4, .inl (v4))] (List.forall_mem_cons.mpr ⟨rfl, (List.forall_mem_cons.mpr ⟨rfl, (List.forall_mem_cons.mpr ⟨rfl, (List.forall_mem_cons.mpr ⟨rfl, (List.forall_mem_cons.mpr ⟨rfl, (fun _ h0 => absurd h0 List.not_mem_nil)⟩)⟩)⟩)⟩)⟩) ?_
        exact t_X10_numberHere_75 hd (f_X10_numberHere_34 k88 n) k88 ih hk88 v1 v2 v3 v4 r1.2 _ h
      · rw [if_neg c3] at h
        refine sd_b_cf (c := .ge) rfl (decide_eq_false c3) (by decide) ?_
        refine sd_b_go 4 (pc2 := 61) (lv2 := [(0, .inr (.inr (some (331)))), (1, .inl (v1)), (2, .inl (v2)), (3, .inl (v3)), (4, .inl (v4))]) (st2 := [.inr (.inr (some (331))), .inl (sd_w (10 * v4))]) rfl ?_
        refine sd_b_gr (k := 0) sd_o_331 rfl rfl rfl ?_
        refine sd_b_go 1 (pc2 := 65) (lv2 := [(0, .inr (.inr (some (331)))), (1, .inl (v1)), (2, .inl (v2)), (3, .inl (v3)), (4, .inl (v4))]) (st2 := [.inr (.inr (some (331))), .inr (.inr (some (332))), .inl (sd_w (10 * v4))]) rfl ?_
        refine sd_b_gi (k := 8) sd_o_331 rfl rfl rfl ?_
        obtain ⟨g4, h⟩ := sd_if h
        refine sd_b_ab (sd_oa sd_o_331 (by decide) (off := 1) (List.mem_of_getElem? (i := 0) rfl)) (by decide) g4 rfl ?_
        refine sd_b_go 4 (pc2 := 75) (lv2 := [(4, .inl (sd_w ((sd_w ((sd_w (10 * v4)) + ((r1.2) 332 (r1.2 331 8).toNat))) - 48))), (0, .inr (.inr (some (331)))), (1, .inl (v1)), (2, .inl (v2)), (3, .inl (v3))]) (st2 := []) rfl ?_
        refine sd_b_wk [(0, .inr (.inr (some (331)))), (1, .inl (v1)), (2, .inl (v2)), (3, .inl (v3)), (4, .inl (sd_w ((sd_w ((sd_w (10 * v4)) + ((r1.2) 332 (r1.2 331 8).toNat))) - 48)))] (List.forall_mem_cons.mpr ⟨rfl, (List.forall_mem_cons.mpr ⟨rfl, (List.forall_mem_cons.mpr ⟨rfl, (List.forall_mem_cons.mpr ⟨rfl, (List.forall_mem_cons.mpr ⟨rfl, (fun _ h0 => absurd h0 List.not_mem_nil)⟩)⟩)⟩)⟩)⟩) ?_
        exact t_X10_numberHere_75 hd (f_X10_numberHere_34 k88 n) k88 ih hk88 v1 v2 v3 (sd_w ((sd_w ((sd_w (10 * v4)) + ((r1.2) 332 (r1.2 331 8).toNat))) - 48)) r1.2 _ h
def f_X10_numberHere_117 (v3 : Int) (M : sd_M) : Option (Int × sd_M) := (f_X10_fails 1 v3 M).bind fun r1 => if r1.1 = 0 then (some (0, r1.2)) else (some (1, r1.2))
set_option maxRecDepth 4000 in
theorem t_X10_numberHere_117 {X : Nat → List sd_V → List sd_E → sd_A → Prop} {d : Nat} (hd : 1 ≤ d) (v3 : Int) (M : sd_M) (Rr : Int × sd_M) (h : f_X10_numberHere_117 v3 M = some Rr) : sd_B X d sd_q_X10_numberHere 117 [(0, .inr (.inr (some (331)))), (3, .inl (v3))] [] M (some (.inl Rr.1), sd_rp Rr.2, 0, 0) := by
  unfold f_X10_numberHere_117 at h
  refine sd_b_go 3 (pc2 := 120) (lv2 := [(0, .inr (.inr (some (331)))), (3, .inl (v3))]) (st2 := [.inl (v3), .inl (1), .inr (.inr (some (331)))]) rfl ?_
  obtain ⟨r1, e1, h⟩ := sd_bnd h
  refine sd_b_call [.inr (.inr (some (331))), .inl (1), .inl (v3)] [] rfl rfl sd_i_X10_fails rfl rfl (Nat.le_of_ble_eq_true rfl) (sd_rc_v sd_o_331) (m_X10_fails (by omega) e1) ?_
  by_cases c2 : r1.1 = 0
  · rw [if_pos c2] at h
    refine sd_b_zt (c := .eq) (tgt := 130) rfl (decide_eq_true c2) (by decide) ?_
    refine sd_b_go 1 (pc2 := 131) (lv2 := [(0, .inr (.inr (some (331)))), (3, .inl (v3))]) (st2 := [.inl (0)]) rfl ?_
    cases h
    exact sd_b_rt rfl rfl rfl
  · rw [if_neg c2] at h
    refine sd_b_zf (c := .eq) rfl (decide_eq_false c2) (by decide) ?_
    refine sd_b_go 2 (pc2 := 131) (lv2 := [(0, .inr (.inr (some (331)))), (3, .inl (v3))]) (st2 := [.inl (1)]) rfl ?_
    cases h
    exact sd_b_rt rfl rfl rfl
def f_X10_numberHere_88 (v1 : Int) (v2 : Int) (v3 : Int) (v4 : Int) (M : sd_M) : Option (Int × sd_M) := if 5 < (sd_w ((sd_s M 331 10 v4 331 8) - v3)) then (f_X10_numberHere_117 v3 (sd_s M 331 10 v4)) else ((f_X10_in v4 v1 v2 (sd_s M 331 10 v4)).bind fun r2 => if r2.1 = 0 then (f_X10_numberHere_117 v3 r2.2) else (some (1, r2.2)))
set_option maxRecDepth 4000 in
theorem t_X10_numberHere_88 {X : Nat → List sd_V → List sd_E → sd_A → Prop} {d : Nat} (hd : 1 ≤ d) (v1 : Int) (v2 : Int) (v3 : Int) (v4 : Int) (M : sd_M) (Rr : Int × sd_M) (h : f_X10_numberHere_88 v1 v2 v3 v4 M = some Rr) : sd_B X d sd_q_X10_numberHere 88 [(0, .inr (.inr (some (331)))), (1, .inl (v1)), (2, .inl (v2)), (3, .inl (v3)), (4, .inl (v4))] [] M (some (.inl Rr.1), sd_rp Rr.2, 0, 0) := by
  unfold f_X10_numberHere_88 at h
  refine sd_b_go 2 (pc2 := 91) (lv2 := [(0, .inr (.inr (some (331)))), (1, .inl (v1)), (2, .inl (v2)), (3, .inl (v3)), (4, .inl (v4))]) (st2 := [.inl (v4), .inr (.inr (some (331)))]) rfl ?_
  refine sd_b_pi (k := 10) sd_o_331 rfl rfl rfl rfl rfl ?_
  refine sd_b_go 1 (pc2 := 95) (lv2 := [(0, .inr (.inr (some (331)))), (1, .inl (v1)), (2, .inl (v2)), (3, .inl (v3)), (4, .inl (v4))]) (st2 := [.inr (.inr (some (331)))]) rfl ?_
  refine sd_b_gi (k := 8) sd_o_331 rfl rfl rfl ?_
  refine sd_b_go 3 (pc2 := 101) (lv2 := [(0, .inr (.inr (some (331)))), (1, .inl (v1)), (2, .inl (v2)), (3, .inl (v3)), (4, .inl (v4))]) (st2 := [.inl (5), .inl (sd_w ((sd_s M 331 10 v4 331 8) - v3))]) rfl ?_
  by_cases c1 : 5 < (sd_w ((sd_s M 331 10 v4 331 8) - v3))
  · rw [if_pos c1] at h
    refine sd_b_ct (c := .gt) (tgt := 117) rfl (decide_eq_true c1) (by decide) ?_
    refine sd_b_wk [(0, .inr (.inr (some (331)))), (3, .inl (v3))] (List.forall_mem_cons.mpr ⟨rfl, (List.forall_mem_cons.mpr ⟨rfl, (fun _ h0 => absurd h0 List.not_mem_nil)⟩)⟩) ?_
    exact t_X10_numberHere_117 hd v3 (sd_s M 331 10 v4) _ h
  · rw [if_neg c1] at h
    refine sd_b_cf (c := .gt) rfl (decide_eq_false c1) (by decide) ?_
    refine sd_b_go 6 (pc2 := 111) (lv2 := [(0, .inr (.inr (some (331)))), (1, .inl (v1)), (2, .inl (v2)), (3, .inl (v3)), (4, .inl (v4))]) (st2 := [.inr (.inl (v2)), .inr (.inl (v1)), .inr (.inl (v4))]) rfl ?_
    obtain ⟨r2, e2, h⟩ := sd_bnd h
    refine sd_b_call [.inr (.inl (v4)), .inr (.inl (v1)), .inr (.inl (v2))] [] rfl rfl sd_i_X10_in rfl rfl (Nat.le_of_ble_eq_true rfl) rfl (m_X10_in (by omega) e2) ?_
    by_cases c3 : r2.1 = 0
    · rw [if_pos c3] at h
      refine sd_b_zf (c := .ne) rfl (decide_eq_false (not_not_intro c3)) (by decide) ?_
      refine sd_b_wk [(0, .inr (.inr (some (331)))), (3, .inl (v3))] (List.forall_mem_cons.mpr ⟨rfl, (List.forall_mem_cons.mpr ⟨rfl, (fun _ h0 => absurd h0 List.not_mem_nil)⟩)⟩) ?_
      exact t_X10_numberHere_117 hd v3 r2.2 _ h
    · rw [if_neg c3] at h
      refine sd_b_zt (c := .ne) (tgt := 126) rfl (decide_eq_true c3) (by decide) ?_
      refine sd_b_go 2 (pc2 := 131) (lv2 := [(0, .inr (.inr (some (331)))), (1, .inl (v1)), (2, .inl (v2)), (3, .inl (v3)), (4, .inl (v4))]) (st2 := [.inl (1)]) rfl ?_
      cases h
      exact sd_b_rt rfl rfl rfl
def f_X10_numberHere (p1 : Int) (p2 : Int) (M : sd_M) : Option (Int × sd_M) := (f_X10_see M).bind fun r1 => (f_X10_isDigit (r1.2 331 8) r1.2).bind fun r2 => if r2.1 = 0 then ((f_X10_fails 0 (r2.2 331 8) r2.2).bind fun r4 => if r4.1 = 0 ∨ r4.1 = 1 then some (r4.1, r4.2) else none) else (f_X10_numberHere_34 (f_X10_numberHere_88) 4000 p1 p2 (r2.2 331 8) 0 r2.2)
set_option maxRecDepth 4000 in
theorem t_X10_numberHere {X : Nat → List sd_V → List sd_E → sd_A → Prop} {d : Nat} (hd : 1 ≤ d) (p1 : Int) (p2 : Int) (M : sd_M) (Rr : Int × sd_M) (h : f_X10_numberHere p1 p2 M = some Rr) : sd_B X d sd_q_X10_numberHere 0 [(0, .inr (.inr (some (331)))), (1, .inl (p1)), (2, .inl (p2))] [] M (some (.inl Rr.1), sd_rp Rr.2, 0, 0) := by
  unfold f_X10_numberHere at h
  refine sd_b_go 1 (pc2 := 1) (lv2 := [(0, .inr (.inr (some (331)))), (1, .inl (p1)), (2, .inl (p2))]) (st2 := [.inr (.inr (some (331)))]) rfl ?_
  obtain ⟨r1, e1, h⟩ := sd_bnd h
  refine sd_b_call [.inr (.inr (some (331)))] [] rfl rfl sd_i_X10_see rfl rfl (Nat.le_of_ble_eq_true rfl) (sd_rc_v sd_o_331) (m_X10_see (by omega) e1) ?_
  refine sd_b_go 3 (pc2 := 7) (lv2 := [(0, .inr (.inr (some (331)))), (1, .inl (p1)), (2, .inl (p2))]) (st2 := [.inr (.inr (some (331))), .inr (.inr (some (331)))]) rfl ?_
  refine sd_b_gi (k := 8) sd_o_331 rfl rfl rfl ?_
  obtain ⟨r2, e2, h⟩ := sd_bnd h
  refine sd_b_call [.inr (.inr (some (331))), .inl (r1.2 331 8)] [] rfl rfl sd_i_X10_isDigit rfl rfl (Nat.le_of_ble_eq_true rfl) (sd_rc_v sd_o_331) (m_X10_isDigit (by omega) e2) ?_
  by_cases c3 : r2.1 = 0
  · rw [if_pos c3] at h
    refine sd_b_zf (c := .ne) rfl (decide_eq_false (not_not_intro c3)) (by decide) ?_
    refine sd_b_go 3 (pc2 := 19) (lv2 := [(0, .inr (.inr (some (331)))), (1, .inl (p1)), (2, .inl (p2))]) (st2 := [.inr (.inr (some (331))), .inl (0), .inr (.inr (some (331)))]) rfl ?_
    refine sd_b_gi (k := 8) sd_o_331 rfl rfl rfl ?_
    obtain ⟨r4, e4, h⟩ := sd_bnd h
    refine sd_b_call [.inr (.inr (some (331))), .inl (0), .inl (r2.2 331 8)] [] rfl rfl sd_i_X10_fails rfl rfl (Nat.le_of_ble_eq_true rfl) (sd_rc_v sd_o_331) (m_X10_fails (by omega) e4) ?_
    obtain ⟨g5, h⟩ := sd_if h
    cases h
    exact sd_b_rz g5 rfl rfl
  · rw [if_neg c3] at h
    refine sd_b_zt (c := .ne) (tgt := 26) rfl (decide_eq_true c3) (by decide) ?_
    refine sd_b_go 1 (pc2 := 27) (lv2 := [(0, .inr (.inr (some (331)))), (1, .inl (p1)), (2, .inl (p2))]) (st2 := [.inr (.inr (some (331)))]) rfl ?_
    refine sd_b_gi (k := 8) sd_o_331 rfl rfl rfl ?_
    refine sd_b_go 3 (pc2 := 34) (lv2 := [(4, .inl (0)), (3, .inl (r2.2 331 8)), (0, .inr (.inr (some (331)))), (1, .inl (p1)), (2, .inl (p2))]) (st2 := []) rfl ?_
    refine sd_b_wk [(0, .inr (.inr (some (331)))), (1, .inl (p1)), (2, .inl (p2)), (3, .inl (r2.2 331 8)), (4, .inl (0))] (List.forall_mem_cons.mpr ⟨rfl, (List.forall_mem_cons.mpr ⟨rfl, (List.forall_mem_cons.mpr ⟨rfl, (List.forall_mem_cons.mpr ⟨rfl, (List.forall_mem_cons.mpr ⟨rfl, (fun _ h0 => absurd h0 List.not_mem_nil)⟩)⟩)⟩)⟩)⟩) ?_
    exact t_X10_numberHere_34 hd (f_X10_numberHere_88) (t_X10_numberHere_88 hd) 4000 p1 p2 (r2.2 331 8) 0 r2.2 _ h
theorem m_X10_numberHere {X : Nat → List sd_V → List sd_E → sd_A → Prop} {d : Nat} (hd : 2 ≤ d) {p1 : Int} {p2 : Int} {M : sd_M} {Rr : Int × sd_M} (h : f_X10_numberHere p1 p2 M = some Rr) : sd_Cal X d 142 [.inr (.inr (some (331))), .inl (p1), .inl (p2)] (sd_rp M) (some (.inl Rr.1), sd_rp Rr.2, 0, 0) := by
  obtain ⟨d, rfl⟩ : ∃ d2, d = d2 + 1 := ⟨d - 1, by omega⟩
  exact sd_cal_of sd_i_X10_numberHere (Nat.le_of_ble_eq_true rfl) (t_X10_numberHere (by omega) p1 p2 M Rr h)
-- X10_wordHere
def sd_q_X10_wordHere : sd_MI := (yX10_wordHere, cX10_wordHere, 1, (some .int), 10, 0, sd_t_X10_wordHere)
set_option maxRecDepth 4000 in
theorem sd_i_X10_wordHere : sd_mL[143]? = some sd_q_X10_wordHere := rfl
def f_X10_wordHere (M : sd_M) : Option (Int × sd_M) := (f_X10_isWord 478459356530 M).bind fun r1 => if r1.1 = 0 then ((f_X10_isWord 131333279212915 r1.2).bind fun r3 => if r3.1 = 0 then ((f_X10_isWord 126943688025203 r3.2).bind fun r5 => if r5.1 = 0 then ((f_X10_isWord 474147546227 r5.2).bind fun r7 => if r7.1 = 0 then ((f_X10_isWord 465625310579 r7.2).bind fun r9 => if r9.1 = 0 then ((f_X10_isWord 123610792682852 r9.2).bind fun r11 => if r11.1 = 0 then ((f_X10_isWord 478660552050 r11.2).bind fun r13 => if r13.1 = 0 then ((f_X10_isWord 495673373300 r13.2).bind fun r15 => if r15.1 = 0 then ((f_X10_isWord 33602627781095015 r15.2).bind fun r17 => if r17.1 = 0 then ((f_X10_isWord 1735356005 r17.2).bind fun r19 => if r19.1 = 0 then ((f_X10_isWord 6578553 r19.2).bind fun r21 => if r21.1 = 0 then (some ((-1), r21.2)) else (some (10, r21.2))) else (some (9, r19.2))) else (some (8, r17.2))) else (some (7, r15.2))) else (some (6, r13.2))) else (some (5, r11.2))) else (some (4, r9.2))) else (some (3, r7.2))) else (some (2, r5.2))) else (some (1, r3.2))) else (some (0, r1.2))
set_option maxRecDepth 4000 in
theorem t_X10_wordHere {X : Nat → List sd_V → List sd_E → sd_A → Prop} {d : Nat} (hd : 2 ≤ d) (M : sd_M) (Rr : Int × sd_M) (h : f_X10_wordHere M = some Rr) : sd_B X d sd_q_X10_wordHere 0 [(0, .inr (.inr (some (331))))] [] M (some (.inl Rr.1), sd_rp Rr.2, 0, 0) := by
  unfold f_X10_wordHere at h
  refine sd_b_go 2 (pc2 := 4) (lv2 := [(0, .inr (.inr (some (331))))]) (st2 := [.inr (.inl (478459356530)), .inr (.inr (some (331)))]) rfl ?_
  obtain ⟨r1, e1, h⟩ := sd_bnd h
  refine sd_b_call [.inr (.inr (some (331))), .inr (.inl (478459356530))] [] rfl rfl sd_i_X10_isWord rfl rfl (Nat.le_of_ble_eq_true rfl) (sd_rc_v sd_o_331) (m_X10_isWord (by omega) e1) ?_
  by_cases c2 : r1.1 = 0
  · rw [if_pos c2] at h
    refine sd_b_zt (c := .eq) (tgt := 12) rfl (decide_eq_true c2) (by decide) ?_
    refine sd_b_go 2 (pc2 := 16) (lv2 := [(0, .inr (.inr (some (331))))]) (st2 := [.inr (.inl (131333279212915)), .inr (.inr (some (331)))]) rfl ?_
    obtain ⟨r3, e3, h⟩ := sd_bnd h
    refine sd_b_call [.inr (.inr (some (331))), .inr (.inl (131333279212915))] [] rfl rfl sd_i_X10_isWord rfl rfl (Nat.le_of_ble_eq_true rfl) (sd_rc_v sd_o_331) (m_X10_isWord (by omega) e3) ?_
    by_cases c4 : r3.1 = 0
    · rw [if_pos c4] at h
      refine sd_b_zt (c := .eq) (tgt := 24) rfl (decide_eq_true c4) (by decide) ?_
      refine sd_b_go 2 (pc2 := 28) (lv2 := [(0, .inr (.inr (some (331))))]) (st2 := [.inr (.inl (126943688025203)), .inr (.inr (some (331)))]) rfl ?_
      obtain ⟨r5, e5, h⟩ := sd_bnd h
      refine sd_b_call [.inr (.inr (some (331))), .inr (.inl (126943688025203))] [] rfl rfl sd_i_X10_isWord rfl rfl (Nat.le_of_ble_eq_true rfl) (sd_rc_v sd_o_331) (m_X10_isWord (by omega) e5) ?_
      by_cases c6 : r5.1 = 0
      · rw [if_pos c6] at h
        refine sd_b_zt (c := .eq) (tgt := 36) rfl (decide_eq_true c6) (by decide) ?_
        refine sd_b_go 2 (pc2 := 40) (lv2 := [(0, .inr (.inr (some (331))))]) (st2 := [.inr (.inl (474147546227)), .inr (.inr (some (331)))]) rfl ?_
        obtain ⟨r7, e7, h⟩ := sd_bnd h
        refine sd_b_call [.inr (.inr (some (331))), .inr (.inl (474147546227))] [] rfl rfl sd_i_X10_isWord rfl rfl (Nat.le_of_ble_eq_true rfl) (sd_rc_v sd_o_331) (m_X10_isWord (by omega) e7) ?_
        by_cases c8 : r7.1 = 0
        · rw [if_pos c8] at h
          refine sd_b_zt (c := .eq) (tgt := 48) rfl (decide_eq_true c8) (by decide) ?_
          refine sd_b_go 2 (pc2 := 52) (lv2 := [(0, .inr (.inr (some (331))))]) (st2 := [.inr (.inl (465625310579)), .inr (.inr (some (331)))]) rfl ?_
          obtain ⟨r9, e9, h⟩ := sd_bnd h
          refine sd_b_call [.inr (.inr (some (331))), .inr (.inl (465625310579))] [] rfl rfl sd_i_X10_isWord rfl rfl (Nat.le_of_ble_eq_true rfl) (sd_rc_v sd_o_331) (m_X10_isWord (by omega) e9) ?_
          by_cases c10 : r9.1 = 0
          · rw [if_pos c10] at h
            refine sd_b_zt (c := .eq) (tgt := 60) rfl (decide_eq_true c10) (by decide) ?_
            refine sd_b_go 2 (pc2 := 64) (lv2 := [(0, .inr (.inr (some (331))))]) (st2 := [.inr (.inl (123610792682852)), .inr (.inr (some (331)))]) rfl ?_
            obtain ⟨r11, e11, h⟩ := sd_bnd h
            refine sd_b_call [.inr (.inr (some (331))), .inr (.inl (123610792682852))] [] rfl rfl sd_i_X10_isWord rfl rfl (Nat.le_of_ble_eq_true rfl) (sd_rc_v sd_o_331) (m_X10_isWord (by omega) e11) ?_
            by_cases c12 : r11.1 = 0
            · rw [if_pos c12] at h
              refine sd_b_zt (c := .eq) (tgt := 72) rfl (decide_eq_true c12) (by decide) ?_
              refine sd_b_go 2 (pc2 := 76) (lv2 := [(0, .inr (.inr (some (331))))]) (st2 := [.inr (.inl (478660552050)), .inr (.inr (some (331)))]) rfl ?_
              obtain ⟨r13, e13, h⟩ := sd_bnd h
              refine sd_b_call [.inr (.inr (some (331))), .inr (.inl (478660552050))] [] rfl rfl sd_i_X10_isWord rfl rfl (Nat.le_of_ble_eq_true rfl) (sd_rc_v sd_o_331) (m_X10_isWord (by omega) e13) ?_
              by_cases c14 : r13.1 = 0
              · rw [if_pos c14] at h
                refine sd_b_zt (c := .eq) (tgt := 85) rfl (decide_eq_true c14) (by decide) ?_
                refine sd_b_go 2 (pc2 := 89) (lv2 := [(0, .inr (.inr (some (331))))]) (st2 := [.inr (.inl (495673373300)), .inr (.inr (some (331)))]) rfl ?_
                obtain ⟨r15, e15, h⟩ := sd_bnd h
                refine sd_b_call [.inr (.inr (some (331))), .inr (.inl (495673373300))] [] rfl rfl sd_i_X10_isWord rfl rfl (Nat.le_of_ble_eq_true rfl) (sd_rc_v sd_o_331) (m_X10_isWord (by omega) e15) ?_
                by_cases c16 : r15.1 = 0
                · rw [if_pos c16] at h
                  refine sd_b_zt (c := .eq) (tgt := 98) rfl (decide_eq_true c16) (by decide) ?_
                  refine sd_b_go 2 (pc2 := 102) (lv2 := [(0, .inr (.inr (some (331))))]) (st2 := [.inr (.inl (33602627781095015)), .inr (.inr (some (331)))]) rfl ?_
                  obtain ⟨r17, e17, h⟩ := sd_bnd h
                  refine sd_b_call [.inr (.inr (some (331))), .inr (.inl (33602627781095015))] [] rfl rfl sd_i_X10_isWord rfl rfl (Nat.le_of_ble_eq_true rfl) (sd_rc_v sd_o_331) (m_X10_isWord (by omega) e17) ?_
                  by_cases c18 : r17.1 = 0
                  · rw [if_pos c18] at h
                    refine sd_b_zt (c := .eq) (tgt := 111) rfl (decide_eq_true c18) (by decide) ?_
                    refine sd_b_go 2 (pc2 := 115) (lv2 := [(0, .inr (.inr (some (331))))]) (st2 := [.inr (.inl (1735356005)), .inr (.inr (some (331)))]) rfl ?_
                    obtain ⟨r19, e19, h⟩ := sd_bnd h
                    refine sd_b_call [.inr (.inr (some (331))), .inr (.inl (1735356005))] [] rfl rfl sd_i_X10_isWord rfl rfl (Nat.le_of_ble_eq_true rfl) (sd_rc_v sd_o_331) (m_X10_isWord (by omega) e19) ?_
                    by_cases c20 : r19.1 = 0
                    · rw [if_pos c20] at h
                      refine sd_b_zt (c := .eq) (tgt := 126) rfl (decide_eq_true c20) (by decide) ?_
                      refine sd_b_go 2 (pc2 := 130) (lv2 := [(0, .inr (.inr (some (331))))]) (st2 := [.inr (.inl (6578553)), .inr (.inr (some (331)))]) rfl ?_
                      obtain ⟨r21, e21, h⟩ := sd_bnd h
                      refine sd_b_call [.inr (.inr (some (331))), .inr (.inl (6578553))] [] rfl rfl sd_i_X10_isWord rfl rfl (Nat.le_of_ble_eq_true rfl) (sd_rc_v sd_o_331) (m_X10_isWord (by omega) e21) ?_
                      by_cases c22 : r21.1 = 0
                      · rw [if_pos c22] at h
                        refine sd_b_zt (c := .eq) (tgt := 141) rfl (decide_eq_true c22) (by decide) ?_
                        refine sd_b_go 1 (pc2 := 142) (lv2 := [(0, .inr (.inr (some (331))))]) (st2 := [.inl ((-1))]) rfl ?_
                        cases h
                        exact sd_b_rt rfl rfl rfl
                      · rw [if_neg c22] at h
                        refine sd_b_zf (c := .eq) rfl (decide_eq_false c22) (by decide) ?_
                        refine sd_b_go 2 (pc2 := 142) (lv2 := [(0, .inr (.inr (some (331))))]) (st2 := [.inl (10)]) rfl ?_
                        cases h
                        exact sd_b_rt rfl rfl rfl
                    · rw [if_neg c20] at h
                      refine sd_b_zf (c := .eq) rfl (decide_eq_false c20) (by decide) ?_
                      refine sd_b_go 2 (pc2 := 142) (lv2 := [(0, .inr (.inr (some (331))))]) (st2 := [.inl (9)]) rfl ?_
                      cases h
                      exact sd_b_rt rfl rfl rfl
                  · rw [if_neg c18] at h
                    refine sd_b_zf (c := .eq) rfl (decide_eq_false c18) (by decide) ?_
                    refine sd_b_go 1 (pc2 := 110) (lv2 := [(0, .inr (.inr (some (331))))]) (st2 := [.inl (8)]) rfl ?_
                    cases h
                    exact sd_b_rt rfl rfl rfl
                · rw [if_neg c16] at h
                  refine sd_b_zf (c := .eq) rfl (decide_eq_false c16) (by decide) ?_
                  refine sd_b_go 1 (pc2 := 97) (lv2 := [(0, .inr (.inr (some (331))))]) (st2 := [.inl (7)]) rfl ?_
                  cases h
                  exact sd_b_rt rfl rfl rfl
              · rw [if_neg c14] at h
                refine sd_b_zf (c := .eq) rfl (decide_eq_false c14) (by decide) ?_
                refine sd_b_go 1 (pc2 := 84) (lv2 := [(0, .inr (.inr (some (331))))]) (st2 := [.inl (6)]) rfl ?_
                cases h
                exact sd_b_rt rfl rfl rfl
            · rw [if_neg c12] at h
              refine sd_b_zf (c := .eq) rfl (decide_eq_false c12) (by decide) ?_
              refine sd_b_go 1 (pc2 := 71) (lv2 := [(0, .inr (.inr (some (331))))]) (st2 := [.inl (5)]) rfl ?_
              cases h
              exact sd_b_rt rfl rfl rfl
          · rw [if_neg c10] at h
            refine sd_b_zf (c := .eq) rfl (decide_eq_false c10) (by decide) ?_
            refine sd_b_go 1 (pc2 := 59) (lv2 := [(0, .inr (.inr (some (331))))]) (st2 := [.inl (4)]) rfl ?_
            cases h
            exact sd_b_rt rfl rfl rfl
        · rw [if_neg c8] at h
          refine sd_b_zf (c := .eq) rfl (decide_eq_false c8) (by decide) ?_
          refine sd_b_go 1 (pc2 := 47) (lv2 := [(0, .inr (.inr (some (331))))]) (st2 := [.inl (3)]) rfl ?_
          cases h
          exact sd_b_rt rfl rfl rfl
      · rw [if_neg c6] at h
        refine sd_b_zf (c := .eq) rfl (decide_eq_false c6) (by decide) ?_
        refine sd_b_go 1 (pc2 := 35) (lv2 := [(0, .inr (.inr (some (331))))]) (st2 := [.inl (2)]) rfl ?_
        cases h
        exact sd_b_rt rfl rfl rfl
    · rw [if_neg c4] at h
      refine sd_b_zf (c := .eq) rfl (decide_eq_false c4) (by decide) ?_
      refine sd_b_go 1 (pc2 := 23) (lv2 := [(0, .inr (.inr (some (331))))]) (st2 := [.inl (1)]) rfl ?_
      cases h
      exact sd_b_rt rfl rfl rfl
  · rw [if_neg c2] at h
    refine sd_b_zf (c := .eq) rfl (decide_eq_false c2) (by decide) ?_
    refine sd_b_go 1 (pc2 := 11) (lv2 := [(0, .inr (.inr (some (331))))]) (st2 := [.inl (0)]) rfl ?_
    cases h
    exact sd_b_rt rfl rfl rfl
theorem m_X10_wordHere {X : Nat → List sd_V → List sd_E → sd_A → Prop} {d : Nat} (hd : 3 ≤ d) {M : sd_M} {Rr : Int × sd_M} (h : f_X10_wordHere M = some Rr) : sd_Cal X d 143 [.inr (.inr (some (331)))] (sd_rp M) (some (.inl Rr.1), sd_rp Rr.2, 0, 0) := by
  obtain ⟨d, rfl⟩ : ∃ d2, d = d2 + 1 := ⟨d - 1, by omega⟩
  exact sd_cal_of sd_i_X10_wordHere (Nat.le_of_ble_eq_true rfl) (t_X10_wordHere (by omega) M Rr h)
-- X10_puts
def sd_q_X10_puts : sd_MI := (yX10_puts, cX10_puts, 3, none, 10, 2, sd_t_X10_puts)
set_option maxRecDepth 4000 in
theorem sd_i_X10_puts : sd_mL[144]? = some sd_q_X10_puts := rfl
def f_X10_puts (p1 : Int) (p2 : Int) (M : sd_M) : Option (Int × sd_M) := if 0 ≤ (M 331 11) ∧ (M 331 11) < 7 then (if 0 ≤ (sd_w ((sd_w (400 * (M 331 11))) + (M 334 (M 331 11).toNat))) ∧ (sd_w ((sd_w (400 * (M 331 11))) + (M 334 (M 331 11).toNat))) < 2400 then (if 0 ≤ (sd_s M 333 (sd_w ((sd_w (400 * (M 331 11))) + (M 334 (M 331 11).toNat))).toNat (sd_w (p1 + (sd_w (16 * p2)))) 331 11) ∧ (sd_s M 333 (sd_w ((sd_w (400 * (M 331 11))) + (M 334 (M 331 11).toNat))).toNat (sd_w (p1 + (sd_w (16 * p2)))) 331 11) < 7 then (if 0 ≤ (sd_s M 333 (sd_w ((sd_w (400 * (M 331 11))) + (M 334 (M 331 11).toNat))).toNat (sd_w (p1 + (sd_w (16 * p2)))) 331 11) ∧ (sd_s M 333 (sd_w ((sd_w (400 * (M 331 11))) + (M 334 (M 331 11).toNat))).toNat (sd_w (p1 + (sd_w (16 * p2)))) 331 11) < 7 then (some (0, sd_s (sd_s M 333 (sd_w ((sd_w (400 * (M 331 11))) + (M 334 (M 331 11).toNat))).toNat (sd_w (p1 + (sd_w (16 * p2))))) 334 (sd_s M 333 (sd_w ((sd_w (400 * (M 331 11))) + (M 334 (M 331 11).toNat))).toNat (sd_w (p1 + (sd_w (16 * p2)))) 331 11).toNat (sd_w (((sd_s M 333 (sd_w ((sd_w (400 * (M 331 11))) + (M 334 (M 331 11).toNat))).toNat (sd_w (p1 + (sd_w (16 * p2))))) 334 (sd_s M 333 (sd_w ((sd_w (400 * (M 331 11))) + (M 334 (M 331 11).toNat))).toNat (sd_w (p1 + (sd_w (16 * p2)))) 331 11).toNat) + 1)))) else none) else none) else none) else none
set_option maxRecDepth 4000 in
theorem t_X10_puts {X : Nat → List sd_V → List sd_E → sd_A → Prop} {d : Nat} (hd : 0 ≤ d) (p1 : Int) (p2 : Int) (M : sd_M) (Rr : Int × sd_M) (h : f_X10_puts p1 p2 M = some Rr) : sd_B X d sd_q_X10_puts 0 [(0, .inr (.inr (some (331)))), (1, .inl (p1)), (2, .inl (p2))] [] M (none, sd_rp Rr.2, 0, 0) := by
  unfold f_X10_puts at h
  refine sd_b_go 1 (pc2 := 1) (lv2 := [(0, .inr (.inr (some (331)))), (1, .inl (p1)), (2, .inl (p2))]) (st2 := [.inr (.inr (some (331)))]) rfl ?_
  refine sd_b_gr (k := 3) sd_o_331 rfl rfl rfl ?_
  refine sd_b_go 2 (pc2 := 8) (lv2 := [(0, .inr (.inr (some (331)))), (1, .inl (p1)), (2, .inl (p2))]) (st2 := [.inr (.inr (some (331))), .inl (400), .inr (.inr (some (333)))]) rfl ?_
  refine sd_b_gi (k := 11) sd_o_331 rfl rfl rfl ?_
  refine sd_b_go 2 (pc2 := 13) (lv2 := [(0, .inr (.inr (some (331)))), (1, .inl (p1)), (2, .inl (p2))]) (st2 := [.inr (.inr (some (331))), .inl (sd_w (400 * (M 331 11))), .inr (.inr (some (333)))]) rfl ?_
  refine sd_b_gr (k := 4) sd_o_331 rfl rfl rfl ?_
  refine sd_b_go 1 (pc2 := 17) (lv2 := [(0, .inr (.inr (some (331)))), (1, .inl (p1)), (2, .inl (p2))]) (st2 := [.inr (.inr (some (331))), .inr (.inr (some (334))), .inl (sd_w (400 * (M 331 11))), .inr (.inr (some (333)))]) rfl ?_
  refine sd_b_gi (k := 11) sd_o_331 rfl rfl rfl ?_
  obtain ⟨g1, h⟩ := sd_if h
  refine sd_b_ai (sd_oa sd_o_331 (by decide) (off := 3) (List.mem_of_getElem? (i := 2) rfl)) g1 rfl ?_
  refine sd_b_go 6 (pc2 := 28) (lv2 := [(0, .inr (.inr (some (331)))), (1, .inl (p1)), (2, .inl (p2))]) (st2 := [.inl (sd_w (p1 + (sd_w (16 * p2)))), .inl (sd_w ((sd_w (400 * (M 331 11))) + (M 334 (M 331 11).toNat))), .inr (.inr (some (333)))]) rfl ?_
  obtain ⟨g2, h⟩ := sd_if h
  refine sd_b_si (sd_oa sd_o_331 (by decide) (off := 2) (List.mem_of_getElem? (i := 1) rfl)) g2 rfl ?_
  refine sd_b_go 1 (pc2 := 30) (lv2 := [(0, .inr (.inr (some (331)))), (1, .inl (p1)), (2, .inl (p2))]) (st2 := [.inr (.inr (some (331)))]) rfl ?_
  refine sd_b_gr (k := 4) sd_o_331 rfl rfl rfl ?_
  refine sd_b_go 1 (pc2 := 34) (lv2 := [(0, .inr (.inr (some (331)))), (1, .inl (p1)), (2, .inl (p2))]) (st2 := [.inr (.inr (some (331))), .inr (.inr (some (334)))]) rfl ?_
  refine sd_b_gi (k := 11) sd_o_331 rfl rfl rfl ?_
  refine sd_b_go 1 (pc2 := 38) (lv2 := [(0, .inr (.inr (some (331)))), (1, .inl (p1)), (2, .inl (p2))]) (st2 := [.inl (sd_s M 333 (sd_w ((sd_w (400 * (M 331 11))) + (M 334 (M 331 11).toNat))).toNat (sd_w (p1 + (sd_w (16 * p2)))) 331 11), .inr (.inr (some (334))), .inl (sd_s M 333 (sd_w ((sd_w (400 * (M 331 11))) + (M 334 (M 331 11).toNat))).toNat (sd_w (p1 + (sd_w (16 * p2)))) 331 11), .inr (.inr (some (334)))]) rfl ?_
  obtain ⟨g3, h⟩ := sd_if h
  refine sd_b_ai (sd_oa sd_o_331 (by decide) (off := 3) (List.mem_of_getElem? (i := 2) rfl)) g3 rfl ?_
  refine sd_b_go 2 (pc2 := 41) (lv2 := [(0, .inr (.inr (some (331)))), (1, .inl (p1)), (2, .inl (p2))]) (st2 := [.inl (sd_w (((sd_s M 333 (sd_w ((sd_w (400 * (M 331 11))) + (M 334 (M 331 11).toNat))).toNat (sd_w (p1 + (sd_w (16 * p2))))) 334 (sd_s M 333 (sd_w ((sd_w (400 * (M 331 11))) + (M 334 (M 331 11).toNat))).toNat (sd_w (p1 + (sd_w (16 * p2)))) 331 11).toNat) + 1)), .inl (sd_s M 333 (sd_w ((sd_w (400 * (M 331 11))) + (M 334 (M 331 11).toNat))).toNat (sd_w (p1 + (sd_w (16 * p2)))) 331 11), .inr (.inr (some (334)))]) rfl ?_
  obtain ⟨g4, h⟩ := sd_if h
  refine sd_b_si (sd_oa sd_o_331 (by decide) (off := 3) (List.mem_of_getElem? (i := 2) rfl)) g4 rfl ?_
  cases h
  exact sd_b_rt rfl rfl rfl
theorem m_X10_puts {X : Nat → List sd_V → List sd_E → sd_A → Prop} {d : Nat} (hd : 1 ≤ d) {p1 : Int} {p2 : Int} {M : sd_M} {Rr : Int × sd_M} (h : f_X10_puts p1 p2 M = some Rr) : sd_Cal X d 144 [.inr (.inr (some (331))), .inl (p1), .inl (p2)] (sd_rp M) (none, sd_rp Rr.2, 0, 0) := by
  obtain ⟨d, rfl⟩ : ∃ d2, d = d2 + 1 := ⟨d - 1, by omega⟩
  exact sd_cal_of sd_i_X10_puts (Nat.le_of_ble_eq_true rfl) (t_X10_puts (by omega) p1 p2 M Rr h)
-- X10_makes
def sd_q_X10_makes : sd_MI := (yX10_makes, cX10_makes, 2, (some .boolean), 10, 1, sd_t_X10_makes)
set_option maxRecDepth 4000 in
theorem sd_i_X10_makes : sd_mL[145]? = some sd_q_X10_makes := rfl
def f_X10_makes (p1 : Int) (M : sd_M) : Option (Int × sd_M) := if (M 331 12) = 60 then ((f_X10_fails 3 p1 M).bind fun r2 => if r2.1 = 0 ∨ r2.1 = 1 then some (r2.1, r2.2) else none) else (some (1, sd_s M 331 12 (sd_w ((M 331 12) + 1))))
set_option maxRecDepth 4000 in
theorem t_X10_makes {X : Nat → List sd_V → List sd_E → sd_A → Prop} {d : Nat} (hd : 1 ≤ d) (p1 : Int) (M : sd_M) (Rr : Int × sd_M) (h : f_X10_makes p1 M = some Rr) : sd_B X d sd_q_X10_makes 0 [(0, .inr (.inr (some (331)))), (1, .inl (p1))] [] M (some (.inl Rr.1), sd_rp Rr.2, 0, 0) := by
  unfold f_X10_makes at h
  refine sd_b_go 1 (pc2 := 1) (lv2 := [(0, .inr (.inr (some (331)))), (1, .inl (p1))]) (st2 := [.inr (.inr (some (331)))]) rfl ?_
  refine sd_b_gi (k := 12) sd_o_331 rfl rfl rfl ?_
  refine sd_b_go 1 (pc2 := 6) (lv2 := [(0, .inr (.inr (some (331)))), (1, .inl (p1))]) (st2 := [.inl (60), .inl (M 331 12)]) rfl ?_
  by_cases c1 : (M 331 12) = 60
  · rw [if_pos c1] at h
    refine sd_b_cf (c := .ne) rfl (decide_eq_false (not_not_intro c1)) (by decide) ?_
    refine sd_b_go 3 (pc2 := 12) (lv2 := [(0, .inr (.inr (some (331)))), (1, .inl (p1))]) (st2 := [.inl (p1), .inl (3), .inr (.inr (some (331)))]) rfl ?_
    obtain ⟨r2, e2, h⟩ := sd_bnd h
    refine sd_b_call [.inr (.inr (some (331))), .inl (3), .inl (p1)] [] rfl rfl sd_i_X10_fails rfl rfl (Nat.le_of_ble_eq_true rfl) (sd_rc_v sd_o_331) (m_X10_fails (by omega) e2) ?_
    obtain ⟨g3, h⟩ := sd_if h
    cases h
    exact sd_b_rz g3 rfl rfl
  · rw [if_neg c1] at h
    refine sd_b_ct (c := .ne) (tgt := 16) rfl (decide_eq_true c1) (by decide) ?_
    refine sd_b_go 2 (pc2 := 18) (lv2 := [(0, .inr (.inr (some (331)))), (1, .inl (p1))]) (st2 := [.inr (.inr (some (331))), .inr (.inr (some (331)))]) rfl ?_
    refine sd_b_gi (k := 12) sd_o_331 rfl rfl rfl ?_
    refine sd_b_go 2 (pc2 := 23) (lv2 := [(0, .inr (.inr (some (331)))), (1, .inl (p1))]) (st2 := [.inl (sd_w ((M 331 12) + 1)), .inr (.inr (some (331)))]) rfl ?_
    refine sd_b_pi (k := 12) sd_o_331 rfl rfl rfl rfl rfl ?_
    refine sd_b_go 1 (pc2 := 27) (lv2 := [(0, .inr (.inr (some (331)))), (1, .inl (p1))]) (st2 := [.inl (1)]) rfl ?_
    cases h
    exact sd_b_rt rfl rfl rfl
theorem m_X10_makes {X : Nat → List sd_V → List sd_E → sd_A → Prop} {d : Nat} (hd : 2 ≤ d) {p1 : Int} {M : sd_M} {Rr : Int × sd_M} (h : f_X10_makes p1 M = some Rr) : sd_Cal X d 145 [.inr (.inr (some (331))), .inl (p1)] (sd_rp M) (some (.inl Rr.1), sd_rp Rr.2, 0, 0) := by
  obtain ⟨d, rfl⟩ : ∃ d2, d = d2 + 1 := ⟨d - 1, by omega⟩
  exact sd_cal_of sd_i_X10_makes (Nat.le_of_ble_eq_true rfl) (t_X10_makes (by omega) p1 M Rr h)
-- X10_opens
def sd_q_X10_opens : sd_MI := (yX10_opens, cX10_opens, 2, (some .boolean), 10, 1, sd_t_X10_opens)
set_option maxRecDepth 4000 in
theorem sd_i_X10_opens : sd_mL[146]? = some sd_q_X10_opens := rfl
def f_X10_opens (p1 : Int) (M : sd_M) : Option (Int × sd_M) := if (M 331 13) = 10 then ((f_X10_fails 2 (M 331 8) M).bind fun r3 => if r3.1 = 0 ∨ r3.1 = 1 then some (r3.1, r3.2) else none) else (if 0 ≤ (sd_s M 331 13 (sd_w ((M 331 13) + 1)) 331 16) ∧ (sd_s M 331 13 (sd_w ((M 331 13) + 1)) 331 16) < 400 then (some (1, sd_s (sd_s (sd_s M 331 13 (sd_w ((M 331 13) + 1))) 338 (sd_s M 331 13 (sd_w ((M 331 13) + 1)) 331 16).toNat p1) 331 16 (sd_w ((sd_s (sd_s M 331 13 (sd_w ((M 331 13) + 1))) 338 (sd_s M 331 13 (sd_w ((M 331 13) + 1)) 331 16).toNat p1 331 16) + 1)))) else none)
set_option maxRecDepth 4000 in
theorem t_X10_opens {X : Nat → List sd_V → List sd_E → sd_A → Prop} {d : Nat} (hd : 1 ≤ d) (p1 : Int) (M : sd_M) (Rr : Int × sd_M) (h : f_X10_opens p1 M = some Rr) : sd_B X d sd_q_X10_opens 0 [(0, .inr (.inr (some (331)))), (1, .inl (p1))] [] M (some (.inl Rr.1), sd_rp Rr.2, 0, 0) := by
  unfold f_X10_opens at h
  refine sd_b_go 1 (pc2 := 1) (lv2 := [(0, .inr (.inr (some (331)))), (1, .inl (p1))]) (st2 := [.inr (.inr (some (331)))]) rfl ?_
  refine sd_b_gi (k := 13) sd_o_331 rfl rfl rfl ?_
  refine sd_b_go 1 (pc2 := 6) (lv2 := [(0, .inr (.inr (some (331)))), (1, .inl (p1))]) (st2 := [.inl (10), .inl (M 331 13)]) rfl ?_
  by_cases c1 : (M 331 13) = 10
  · rw [if_pos c1] at h
    refine sd_b_cf (c := .ne) rfl (decide_eq_false (not_not_intro c1)) (by decide) ?_
    refine sd_b_go 3 (pc2 := 12) (lv2 := [(0, .inr (.inr (some (331)))), (1, .inl (p1))]) (st2 := [.inr (.inr (some (331))), .inl (2), .inr (.inr (some (331)))]) rfl ?_
    refine sd_b_gi (k := 8) sd_o_331 rfl rfl rfl ?_
    obtain ⟨r3, e3, h⟩ := sd_bnd h
    refine sd_b_call [.inr (.inr (some (331))), .inl (2), .inl (M 331 8)] [] rfl rfl sd_i_X10_fails rfl rfl (Nat.le_of_ble_eq_true rfl) (sd_rc_v sd_o_331) (m_X10_fails (by omega) e3) ?_
    obtain ⟨g4, h⟩ := sd_if h
    cases h
    exact sd_b_rz g4 rfl rfl
  · rw [if_neg c1] at h
    refine sd_b_ct (c := .ne) (tgt := 19) rfl (decide_eq_true c1) (by decide) ?_
    refine sd_b_go 2 (pc2 := 21) (lv2 := [(0, .inr (.inr (some (331)))), (1, .inl (p1))]) (st2 := [.inr (.inr (some (331))), .inr (.inr (some (331)))]) rfl ?_
    refine sd_b_gi (k := 13) sd_o_331 rfl rfl rfl ?_
    refine sd_b_go 2 (pc2 := 26) (lv2 := [(0, .inr (.inr (some (331)))), (1, .inl (p1))]) (st2 := [.inl (sd_w ((M 331 13) + 1)), .inr (.inr (some (331)))]) rfl ?_
    refine sd_b_pi (k := 13) sd_o_331 rfl rfl rfl rfl rfl ?_
    refine sd_b_go 1 (pc2 := 30) (lv2 := [(0, .inr (.inr (some (331)))), (1, .inl (p1))]) (st2 := [.inr (.inr (some (331)))]) rfl ?_
    refine sd_b_gr (k := 15) sd_o_331 rfl rfl rfl ?_
    refine sd_b_go 1 (pc2 := 34) (lv2 := [(0, .inr (.inr (some (331)))), (1, .inl (p1))]) (st2 := [.inr (.inr (some (331))), .inr (.inr (some (338)))]) rfl ?_
    refine sd_b_gi (k := 16) sd_o_331 rfl rfl rfl ?_
    refine sd_b_go 1 (pc2 := 38) (lv2 := [(0, .inr (.inr (some (331)))), (1, .inl (p1))]) (st2 := [.inl (p1), .inl (sd_s M 331 13 (sd_w ((M 331 13) + 1)) 331 16), .inr (.inr (some (338)))]) rfl ?_
    obtain ⟨g2, h⟩ := sd_if h
    refine sd_b_si (sd_oa sd_o_331 (by decide) (off := 7) (List.mem_of_getElem? (i := 6) rfl)) g2 rfl ?_
    refine sd_b_go 2 (pc2 := 41) (lv2 := [(0, .inr (.inr (some (331)))), (1, .inl (p1))]) (st2 := [.inr (.inr (some (331))), .inr (.inr (some (331)))]) rfl ?_
    refine sd_b_gi (k := 16) sd_o_331 rfl rfl rfl ?_
    refine sd_b_go 2 (pc2 := 46) (lv2 := [(0, .inr (.inr (some (331)))), (1, .inl (p1))]) (st2 := [.inl (sd_w ((sd_s (sd_s M 331 13 (sd_w ((M 331 13) + 1))) 338 (sd_s M 331 13 (sd_w ((M 331 13) + 1)) 331 16).toNat p1 331 16) + 1)), .inr (.inr (some (331)))]) rfl ?_
    refine sd_b_pi (k := 16) sd_o_331 rfl rfl rfl rfl rfl ?_
    refine sd_b_go 1 (pc2 := 50) (lv2 := [(0, .inr (.inr (some (331)))), (1, .inl (p1))]) (st2 := [.inl (1)]) rfl ?_
    cases h
    exact sd_b_rt rfl rfl rfl
theorem m_X10_opens {X : Nat → List sd_V → List sd_E → sd_A → Prop} {d : Nat} (hd : 2 ≤ d) {p1 : Int} {M : sd_M} {Rr : Int × sd_M} (h : f_X10_opens p1 M = some Rr) : sd_Cal X d 146 [.inr (.inr (some (331))), .inl (p1)] (sd_rp M) (some (.inl Rr.1), sd_rp Rr.2, 0, 0) := by
  obtain ⟨d, rfl⟩ : ∃ d2, d = d2 + 1 := ⟨d - 1, by omega⟩
  exact sd_cal_of sd_i_X10_opens (Nat.le_of_ble_eq_true rfl) (t_X10_opens (by omega) p1 M Rr h)
-- X10_strength
def sd_q_X10_strength : sd_MI := (yX10_strength, cX10_strength, 1, (some .int), 10, 1, sd_t_X10_strength)
set_option maxRecDepth 4000 in
theorem sd_i_X10_strength : sd_mL[147]? = some sd_q_X10_strength := rfl
def f_X10_strength (p0 : Int) (M : sd_M) : Option (Int × sd_M) := if p0 = 13 then (some (1, M)) else (if p0 = 12 then (some (2, M)) else (if p0 = 11 then (some (3, M)) else (some (0, M))))
set_option maxRecDepth 4000 in
theorem t_X10_strength {X : Nat → List sd_V → List sd_E → sd_A → Prop} {d : Nat} (hd : 0 ≤ d) (p0 : Int) (M : sd_M) (Rr : Int × sd_M) (h : f_X10_strength p0 M = some Rr) : sd_B X d sd_q_X10_strength 0 [(0, .inl (p0))] [] M (some (.inl Rr.1), sd_rp Rr.2, 0, 0) := by
  unfold f_X10_strength at h
  refine sd_b_go 2 (pc2 := 3) (lv2 := [(0, .inl (p0))]) (st2 := [.inl (13), .inl (p0)]) rfl ?_
  by_cases c1 : p0 = 13
  · rw [if_pos c1] at h
    refine sd_b_cf (c := .ne) rfl (decide_eq_false (not_not_intro c1)) (by decide) ?_
    refine sd_b_go 2 (pc2 := 31) (lv2 := [(0, .inl (p0))]) (st2 := [.inl (1)]) rfl ?_
    cases h
    exact sd_b_rt rfl rfl rfl
  · rw [if_neg c1] at h
    refine sd_b_ct (c := .ne) (tgt := 10) rfl (decide_eq_true c1) (by decide) ?_
    refine sd_b_go 2 (pc2 := 13) (lv2 := [(0, .inl (p0))]) (st2 := [.inl (12), .inl (p0)]) rfl ?_
    by_cases c2 : p0 = 12
    · rw [if_pos c2] at h
      refine sd_b_cf (c := .ne) rfl (decide_eq_false (not_not_intro c2)) (by decide) ?_
      refine sd_b_go 2 (pc2 := 31) (lv2 := [(0, .inl (p0))]) (st2 := [.inl (2)]) rfl ?_
      cases h
      exact sd_b_rt rfl rfl rfl
    · rw [if_neg c2] at h
      refine sd_b_ct (c := .ne) (tgt := 20) rfl (decide_eq_true c2) (by decide) ?_
      refine sd_b_go 2 (pc2 := 23) (lv2 := [(0, .inl (p0))]) (st2 := [.inl (11), .inl (p0)]) rfl ?_
      by_cases c3 : p0 = 11
      · rw [if_pos c3] at h
        refine sd_b_cf (c := .ne) rfl (decide_eq_false (not_not_intro c3)) (by decide) ?_
        refine sd_b_go 2 (pc2 := 31) (lv2 := [(0, .inl (p0))]) (st2 := [.inl (3)]) rfl ?_
        cases h
        exact sd_b_rt rfl rfl rfl
      · rw [if_neg c3] at h
        refine sd_b_ct (c := .ne) (tgt := 30) rfl (decide_eq_true c3) (by decide) ?_
        refine sd_b_go 1 (pc2 := 31) (lv2 := [(0, .inl (p0))]) (st2 := [.inl (0)]) rfl ?_
        cases h
        exact sd_b_rt rfl rfl rfl
theorem m_X10_strength {X : Nat → List sd_V → List sd_E → sd_A → Prop} {d : Nat} (hd : 1 ≤ d) {p0 : Int} {M : sd_M} {Rr : Int × sd_M} (h : f_X10_strength p0 M = some Rr) : sd_Cal X d 147 [.inl (p0)] (sd_rp M) (some (.inl Rr.1), sd_rp Rr.2, 0, 0) := by
  obtain ⟨d, rfl⟩ : ∃ d2, d = d2 + 1 := ⟨d - 1, by omega⟩
  exact sd_cal_of sd_i_X10_strength (Nat.le_of_ble_eq_true rfl) (t_X10_strength (by omega) p0 M Rr h)
-- X10_layDown
def sd_q_X10_layDown : sd_MI := (yX10_layDown, cX10_layDown, 2, none, 10, 1, sd_t_X10_layDown)
set_option maxRecDepth 4000 in
theorem sd_i_X10_layDown : sd_mL[148]? = some sd_q_X10_layDown := rfl
def f_X10_layDown_0 : Nat → Int → sd_M → Option (Int × sd_M)
  | 0, _, _ => none
  | n + 1, v1, M => if (M 331 16) ≤ 0 then (some (0, M)) else (if 0 ≤ (sd_w ((M 331 16) - 1)) ∧ (sd_w ((M 331 16) - 1)) < 400 then ((f_X10_strength (M 338 (sd_w ((M 331 16) - 1)).toNat) M).bind fun r3 => if r3.1 < v1 then (some (0, r3.2)) else (if 0 ≤ (sd_s r3.2 331 16 (sd_w ((r3.2 331 16) - 1)) 331 16) ∧ (sd_s r3.2 331 16 (sd_w ((r3.2 331 16) - 1)) 331 16) < 400 then ((f_X10_puts ((sd_s r3.2 331 16 (sd_w ((r3.2 331 16) - 1))) 338 (sd_s r3.2 331 16 (sd_w ((r3.2 331 16) - 1)) 331 16).toNat) 0 (sd_s r3.2 331 16 (sd_w ((r3.2 331 16) - 1)))).bind fun r6 => if 0 ≤ (r6.2 331 16) ∧ (r6.2 331 16) < 400 then (if ((r6.2) 338 (r6.2 331 16).toNat) = 11 then (f_X10_layDown_0 n v1 (sd_s r6.2 331 13 (sd_w ((r6.2 331 13) - 1)))) else (f_X10_layDown_0 n v1 r6.2)) else none) else none)) else none)
set_option maxRecDepth 4000 in
theorem t_X10_layDown_0 {X : Nat → List sd_V → List sd_E → sd_A → Prop} {d : Nat} (hd : 1 ≤ d) : ∀ (n : Nat) (v1 : Int) (M : sd_M) (Rr : Int × sd_M), f_X10_layDown_0 n v1 M = some Rr → sd_B X d sd_q_X10_layDown 0 [(0, .inr (.inr (some (331)))), (1, .inl (v1))] [] M (none, sd_rp Rr.2, 0, 0) := by
  intro n
  induction n with
  | zero => intro v1 M Rr h; cases h
  | succ n ih =>
    intro v1 M Rr h
    rw [f_X10_layDown_0] at h
    refine sd_b_go 1 (pc2 := 1) (lv2 := [(0, .inr (.inr (some (331)))), (1, .inl (v1))]) (st2 := [.inr (.inr (some (331)))]) rfl ?_
    refine sd_b_gi (k := 16) sd_o_331 rfl rfl rfl ?_
    by_cases c1 : (M 331 16) ≤ 0
    · rw [if_pos c1] at h
      refine sd_b_zt (c := .le) (tgt := 76) rfl (decide_eq_true c1) (by decide) ?_
      cases h
      exact sd_b_rt rfl rfl rfl
    · rw [if_neg c1] at h
      refine sd_b_zf (c := .le) rfl (decide_eq_false c1) (by decide) ?_
      refine sd_b_go 1 (pc2 := 8) (lv2 := [(0, .inr (.inr (some (331)))), (1, .inl (v1))]) (st2 := [.inr (.inr (some (331)))]) rfl ?_
      refine sd_b_gr (k := 15) sd_o_331 rfl rfl rfl ?_
      refine sd_b_go 1 (pc2 := 12) (lv2 := [(0, .inr (.inr (some (331)))), (1, .inl (v1))]) (st2 := [.inr (.inr (some (331))), .inr (.inr (some (338)))]) rfl ?_
      refine sd_b_gi (k := 16) sd_o_331 rfl rfl rfl ?_
      refine sd_b_go 2 (pc2 := 17) (lv2 := [(0, .inr (.inr (some (331)))), (1, .inl (v1))]) (st2 := [.inl (sd_w ((M 331 16) - 1)), .inr (.inr (some (338)))]) rfl ?_
      obtain ⟨g2, h⟩ := sd_if h
      refine sd_b_ai (sd_oa sd_o_331 (by decide) (off := 7) (List.mem_of_getElem? (i := 6) rfl)) g2 rfl ?_
      obtain ⟨r3, e3, h⟩ := sd_bnd h
      refine sd_b_call [.inl (M 338 (sd_w ((M 331 16) - 1)).toNat)] [] rfl rfl sd_i_X10_strength rfl rfl (Nat.le_of_ble_eq_true rfl) rfl (m_X10_strength (by omega) e3) ?_
      refine sd_b_go 1 (pc2 := 22) (lv2 := [(0, .inr (.inr (some (331)))), (1, .inl (v1))]) (st2 := [.inl (v1), .inl (r3.1)]) rfl ?_
      by_cases c4 : r3.1 < v1
      · rw [if_pos c4] at h
        refine sd_b_ct (c := .lt) (tgt := 76) rfl (decide_eq_true c4) (by decide) ?_
        cases h
        exact sd_b_rt rfl rfl rfl
      · rw [if_neg c4] at h
        refine sd_b_cf (c := .lt) rfl (decide_eq_false c4) (by decide) ?_
        refine sd_b_go 2 (pc2 := 27) (lv2 := [(0, .inr (.inr (some (331)))), (1, .inl (v1))]) (st2 := [.inr (.inr (some (331))), .inr (.inr (some (331)))]) rfl ?_
        refine sd_b_gi (k := 16) sd_o_331 rfl rfl rfl ?_
        refine sd_b_go 2 (pc2 := 32) (lv2 := [(0, .inr (.inr (some (331)))), (1, .inl (v1))]) (st2 := [.inl (sd_w ((r3.2 331 16) - 1)), .inr (.inr (some (331)))]) rfl ?_
        refine sd_b_pi (k := 16) sd_o_331 rfl rfl rfl rfl rfl ?_
        refine sd_b_go 2 (pc2 := 37) (lv2 := [(0, .inr (.inr (some (331)))), (1, .inl (v1))]) (st2 := [.inr (.inr (some (331))), .inr (.inr (some (331)))]) rfl ?_
        refine sd_b_gr (k := 15) sd_o_331 rfl rfl rfl ?_
        refine sd_b_go 1 (pc2 := 41) (lv2 := [(0, .inr (.inr (some (331)))), (1, .inl (v1))]) (st2 := [.inr (.inr (some (331))), .inr (.inr (some (338))), .inr (.inr (some (331)))]) rfl ?_
        refine sd_b_gi (k := 16) sd_o_331 rfl rfl rfl ?_
        obtain ⟨g5, h⟩ := sd_if h
        refine sd_b_ai (sd_oa sd_o_331 (by decide) (off := 7) (List.mem_of_getElem? (i := 6) rfl)) g5 rfl ?_
        refine sd_b_go 1 (pc2 := 46) (lv2 := [(0, .inr (.inr (some (331)))), (1, .inl (v1))]) (st2 := [.inl (0), .inl ((sd_s r3.2 331 16 (sd_w ((r3.2 331 16) - 1))) 338 (sd_s r3.2 331 16 (sd_w ((r3.2 331 16) - 1)) 331 16).toNat), .inr (.inr (some (331)))]) rfl ?_
        obtain ⟨r6, e6, h⟩ := sd_bnd h
        refine sd_b_call [.inr (.inr (some (331))), .inl ((sd_s r3.2 331 16 (sd_w ((r3.2 331 16) - 1))) 338 (sd_s r3.2 331 16 (sd_w ((r3.2 331 16) - 1)) 331 16).toNat), .inl (0)] [] rfl rfl sd_i_X10_puts rfl rfl (Nat.le_of_ble_eq_true rfl) (sd_rc_v sd_o_331) (m_X10_puts (by omega) e6) ?_
        refine sd_b_go 1 (pc2 := 50) (lv2 := [(0, .inr (.inr (some (331)))), (1, .inl (v1))]) (st2 := [.inr (.inr (some (331)))]) rfl ?_
        refine sd_b_gr (k := 15) sd_o_331 rfl rfl rfl ?_
        refine sd_b_go 1 (pc2 := 54) (lv2 := [(0, .inr (.inr (some (331)))), (1, .inl (v1))]) (st2 := [.inr (.inr (some (331))), .inr (.inr (some (338)))]) rfl ?_
        refine sd_b_gi (k := 16) sd_o_331 rfl rfl rfl ?_
        obtain ⟨g7, h⟩ := sd_if h
        refine sd_b_ai (sd_oa sd_o_331 (by decide) (off := 7) (List.mem_of_getElem? (i := 6) rfl)) g7 rfl ?_
        refine sd_b_go 1 (pc2 := 60) (lv2 := [(0, .inr (.inr (some (331)))), (1, .inl (v1))]) (st2 := [.inl (11), .inl ((r6.2) 338 (r6.2 331 16).toNat)]) rfl ?_
        by_cases c8 : ((r6.2) 338 (r6.2 331 16).toNat) = 11
        · rw [if_pos c8] at h
          refine sd_b_cf (c := .ne) rfl (decide_eq_false (not_not_intro c8)) (by decide) ?_
          refine sd_b_go 2 (pc2 := 65) (lv2 := [(0, .inr (.inr (some (331)))), (1, .inl (v1))]) (st2 := [.inr (.inr (some (331))), .inr (.inr (some (331)))]) rfl ?_
          refine sd_b_gi (k := 13) sd_o_331 rfl rfl rfl ?_
          refine sd_b_go 2 (pc2 := 70) (lv2 := [(0, .inr (.inr (some (331)))), (1, .inl (v1))]) (st2 := [.inl (sd_w ((r6.2 331 13) - 1)), .inr (.inr (some (331)))]) rfl ?_
          refine sd_b_pi (k := 13) sd_o_331 rfl rfl rfl rfl rfl ?_
          refine sd_b_go 1 (pc2 := 0) (lv2 := [(0, .inr (.inr (some (331)))), (1, .inl (v1))]) (st2 := []) rfl ?_
          refine sd_b_wk [(0, .inr (.inr (some (331)))), (1, .inl (v1))] (List.forall_mem_cons.mpr ⟨rfl, (List.forall_mem_cons.mpr ⟨rfl, (fun _ h0 => absurd h0 List.not_mem_nil)⟩)⟩) ?_
          exact ih v1 (sd_s r6.2 331 13 (sd_w ((r6.2 331 13) - 1))) _ h
        · rw [if_neg c8] at h
          refine sd_b_ct (c := .ne) (tgt := 0) rfl (decide_eq_true c8) (by decide) ?_
          refine sd_b_wk [(0, .inr (.inr (some (331)))), (1, .inl (v1))] (List.forall_mem_cons.mpr ⟨rfl, (List.forall_mem_cons.mpr ⟨rfl, (fun _ h0 => absurd h0 List.not_mem_nil)⟩)⟩) ?_
          exact ih v1 r6.2 _ h
def f_X10_layDown (p1 : Int) (M : sd_M) : Option (Int × sd_M) := f_X10_layDown_0 4000 p1 M
set_option maxRecDepth 4000 in
theorem t_X10_layDown {X : Nat → List sd_V → List sd_E → sd_A → Prop} {d : Nat} (hd : 1 ≤ d) (p1 : Int) (M : sd_M) (Rr : Int × sd_M) (h : f_X10_layDown p1 M = some Rr) : sd_B X d sd_q_X10_layDown 0 [(0, .inr (.inr (some (331)))), (1, .inl (p1))] [] M (none, sd_rp Rr.2, 0, 0) := by
  unfold f_X10_layDown at h
  refine sd_b_wk [(0, .inr (.inr (some (331)))), (1, .inl (p1))] (List.forall_mem_cons.mpr ⟨rfl, (List.forall_mem_cons.mpr ⟨rfl, (fun _ h0 => absurd h0 List.not_mem_nil)⟩)⟩) ?_
  exact t_X10_layDown_0 hd 4000 p1 M _ h
theorem m_X10_layDown {X : Nat → List sd_V → List sd_E → sd_A → Prop} {d : Nat} (hd : 2 ≤ d) {p1 : Int} {M : sd_M} {Rr : Int × sd_M} (h : f_X10_layDown p1 M = some Rr) : sd_Cal X d 148 [.inr (.inr (some (331))), .inl (p1)] (sd_rp M) (none, sd_rp Rr.2, 0, 0) := by
  obtain ⟨d, rfl⟩ : ∃ d2, d = d2 + 1 := ⟨d - 1, by omega⟩
  exact sd_cal_of sd_i_X10_layDown (Nat.le_of_ble_eq_true rfl) (t_X10_layDown (by omega) p1 M Rr h)
-- X10_value
def sd_q_X10_value : sd_MI := (yX10_value, cX10_value, 3, (some .boolean), 10, 0, sd_t_X10_value)
set_option maxRecDepth 4000 in
theorem sd_i_X10_value : sd_mL[149]? = some sd_q_X10_value := rfl
def f_X10_value (M : sd_M) : Option (Int × sd_M) := (f_X10_see M).bind fun r1 => (f_X10_isDigit (r1.2 331 8) r1.2).bind fun r2 => if r2.1 = 0 then ((f_X10_wordHere r2.2).bind fun r4 => if 0 ≤ r4.1 then ((f_X10_makes (r1.2 331 8) r4.2).bind fun r6 => if r6.1 = 0 then (some (0, r6.2)) else ((f_X10_passWord r6.2).bind fun r8 => (f_X10_puts 1 r4.1 r8.2).bind fun r9 => some (1, r9.2))) else ((f_X10_fails 0 (r1.2 331 8) r4.2).bind fun r10 => if r10.1 = 0 ∨ r10.1 = 1 then some (r10.1, r10.2) else none)) else ((f_X10_numberHere 0 99999 r2.2).bind fun r12 => if r12.1 = 0 then (some (0, r12.2)) else ((f_X10_makes (r1.2 331 8) r12.2).bind fun r14 => if r14.1 = 0 then (some (0, r14.2)) else ((f_X10_puts 0 (r14.2 331 10) r14.2).bind fun r16 => some (1, r16.2))))
set_option maxRecDepth 4000 in
theorem t_X10_value {X : Nat → List sd_V → List sd_E → sd_A → Prop} {d : Nat} (hd : 3 ≤ d) (M : sd_M) (Rr : Int × sd_M) (h : f_X10_value M = some Rr) : sd_B X d sd_q_X10_value 0 [(0, .inr (.inr (some (331))))] [] M (some (.inl Rr.1), sd_rp Rr.2, 0, 0) := by
  unfold f_X10_value at h
  refine sd_b_go 1 (pc2 := 1) (lv2 := [(0, .inr (.inr (some (331))))]) (st2 := [.inr (.inr (some (331)))]) rfl ?_
  obtain ⟨r1, e1, h⟩ := sd_bnd h
  refine sd_b_call [.inr (.inr (some (331)))] [] rfl rfl sd_i_X10_see rfl rfl (Nat.le_of_ble_eq_true rfl) (sd_rc_v sd_o_331) (m_X10_see (by omega) e1) ?_
  refine sd_b_go 2 (pc2 := 6) (lv2 := [(0, .inr (.inr (some (331))))]) (st2 := [.inr (.inr (some (331)))]) rfl ?_
  refine sd_b_gi (k := 8) sd_o_331 rfl rfl rfl ?_
  refine sd_b_go 3 (pc2 := 12) (lv2 := [(1, .inl (r1.2 331 8)), (0, .inr (.inr (some (331))))]) (st2 := [.inr (.inr (some (331))), .inr (.inr (some (331)))]) rfl ?_
  refine sd_b_gi (k := 8) sd_o_331 rfl rfl rfl ?_
  obtain ⟨r2, e2, h⟩ := sd_bnd h
  refine sd_b_call [.inr (.inr (some (331))), .inl (r1.2 331 8)] [] rfl rfl sd_i_X10_isDigit rfl rfl (Nat.le_of_ble_eq_true rfl) (sd_rc_v sd_o_331) (m_X10_isDigit (by omega) e2) ?_
  by_cases c3 : r2.1 = 0
  · rw [if_pos c3] at h
    refine sd_b_zt (c := .eq) (tgt := 52) rfl (decide_eq_true c3) (by decide) ?_
    refine sd_b_go 1 (pc2 := 53) (lv2 := [(1, .inl (r1.2 331 8)), (0, .inr (.inr (some (331))))]) (st2 := [.inr (.inr (some (331)))]) rfl ?_
    obtain ⟨r4, e4, h⟩ := sd_bnd h
    refine sd_b_call [.inr (.inr (some (331)))] [] rfl rfl sd_i_X10_wordHere rfl rfl (Nat.le_of_ble_eq_true rfl) (sd_rc_v sd_o_331) (m_X10_wordHere (by omega) e4) ?_
    refine sd_b_go 2 (pc2 := 58) (lv2 := [(2, .inl (r4.1)), (1, .inl (r1.2 331 8)), (0, .inr (.inr (some (331))))]) (st2 := [.inl (r4.1)]) rfl ?_
    by_cases c5 : 0 ≤ r4.1
    · rw [if_pos c5] at h
      refine sd_b_zt (c := .ge) (tgt := 68) rfl (decide_eq_true c5) (by decide) ?_
      refine sd_b_go 2 (pc2 := 70) (lv2 := [(2, .inl (r4.1)), (1, .inl (r1.2 331 8)), (0, .inr (.inr (some (331))))]) (st2 := [.inl (r1.2 331 8), .inr (.inr (some (331)))]) rfl ?_
      obtain ⟨r6, e6, h⟩ := sd_bnd h
      refine sd_b_call [.inr (.inr (some (331))), .inl (r1.2 331 8)] [] rfl rfl sd_i_X10_makes rfl rfl (Nat.le_of_ble_eq_true rfl) (sd_rc_v sd_o_331) (m_X10_makes (by omega) e6) ?_
      by_cases c7 : r6.1 = 0
      · rw [if_pos c7] at h
        refine sd_b_zf (c := .ne) rfl (decide_eq_false (not_not_intro c7)) (by decide) ?_
        refine sd_b_go 1 (pc2 := 77) (lv2 := [(2, .inl (r4.1)), (1, .inl (r1.2 331 8)), (0, .inr (.inr (some (331))))]) (st2 := [.inl (0)]) rfl ?_
        cases h
        exact sd_b_rt rfl rfl rfl
      · rw [if_neg c7] at h
        refine sd_b_zt (c := .ne) (tgt := 78) rfl (decide_eq_true c7) (by decide) ?_
        refine sd_b_go 1 (pc2 := 79) (lv2 := [(2, .inl (r4.1)), (1, .inl (r1.2 331 8)), (0, .inr (.inr (some (331))))]) (st2 := [.inr (.inr (some (331)))]) rfl ?_
        obtain ⟨r8, e8, h⟩ := sd_bnd h
        refine sd_b_call [.inr (.inr (some (331)))] [] rfl rfl sd_i_X10_passWord rfl rfl (Nat.le_of_ble_eq_true rfl) (sd_rc_v sd_o_331) (m_X10_passWord (by omega) e8) ?_
        refine sd_b_go 3 (pc2 := 85) (lv2 := [(2, .inl (r4.1)), (1, .inl (r1.2 331 8)), (0, .inr (.inr (some (331))))]) (st2 := [.inl (r4.1), .inl (1), .inr (.inr (some (331)))]) rfl ?_
        obtain ⟨r9, e9, h⟩ := sd_bnd h
        refine sd_b_call [.inr (.inr (some (331))), .inl (1), .inl (r4.1)] [] rfl rfl sd_i_X10_puts rfl rfl (Nat.le_of_ble_eq_true rfl) (sd_rc_v sd_o_331) (m_X10_puts (by omega) e9) ?_
        refine sd_b_go 1 (pc2 := 89) (lv2 := [(2, .inl (r4.1)), (1, .inl (r1.2 331 8)), (0, .inr (.inr (some (331))))]) (st2 := [.inl (1)]) rfl ?_
        cases h
        exact sd_b_rt rfl rfl rfl
    · rw [if_neg c5] at h
      refine sd_b_zf (c := .ge) rfl (decide_eq_false c5) (by decide) ?_
      refine sd_b_go 3 (pc2 := 64) (lv2 := [(2, .inl (r4.1)), (1, .inl (r1.2 331 8)), (0, .inr (.inr (some (331))))]) (st2 := [.inl (r1.2 331 8), .inl (0), .inr (.inr (some (331)))]) rfl ?_
      obtain ⟨r10, e10, h⟩ := sd_bnd h
      refine sd_b_call [.inr (.inr (some (331))), .inl (0), .inl (r1.2 331 8)] [] rfl rfl sd_i_X10_fails rfl rfl (Nat.le_of_ble_eq_true rfl) (sd_rc_v sd_o_331) (m_X10_fails (by omega) e10) ?_
      obtain ⟨g11, h⟩ := sd_if h
      cases h
      exact sd_b_rz g11 rfl rfl
  · rw [if_neg c3] at h
    refine sd_b_zf (c := .eq) rfl (decide_eq_false c3) (by decide) ?_
    refine sd_b_go 3 (pc2 := 25) (lv2 := [(1, .inl (r1.2 331 8)), (0, .inr (.inr (some (331))))]) (st2 := [.inl (99999), .inl (0), .inr (.inr (some (331)))]) rfl ?_
    obtain ⟨r12, e12, h⟩ := sd_bnd h
    refine sd_b_call [.inr (.inr (some (331))), .inl (0), .inl (99999)] [] rfl rfl sd_i_X10_numberHere rfl rfl (Nat.le_of_ble_eq_true rfl) (sd_rc_v sd_o_331) (m_X10_numberHere (by omega) e12) ?_
    by_cases c13 : r12.1 = 0
    · rw [if_pos c13] at h
      refine sd_b_zt (c := .eq) (tgt := 39) rfl (decide_eq_true c13) (by decide) ?_
      refine sd_b_go 1 (pc2 := 40) (lv2 := [(1, .inl (r1.2 331 8)), (0, .inr (.inr (some (331))))]) (st2 := [.inl (0)]) rfl ?_
      cases h
      exact sd_b_rt rfl rfl rfl
    · rw [if_neg c13] at h
      refine sd_b_zf (c := .eq) rfl (decide_eq_false c13) (by decide) ?_
      refine sd_b_go 2 (pc2 := 33) (lv2 := [(1, .inl (r1.2 331 8)), (0, .inr (.inr (some (331))))]) (st2 := [.inl (r1.2 331 8), .inr (.inr (some (331)))]) rfl ?_
      obtain ⟨r14, e14, h⟩ := sd_bnd h
      refine sd_b_call [.inr (.inr (some (331))), .inl (r1.2 331 8)] [] rfl rfl sd_i_X10_makes rfl rfl (Nat.le_of_ble_eq_true rfl) (sd_rc_v sd_o_331) (m_X10_makes (by omega) e14) ?_
      by_cases c15 : r14.1 = 0
      · rw [if_pos c15] at h
        refine sd_b_zf (c := .ne) rfl (decide_eq_false (not_not_intro c15)) (by decide) ?_
        refine sd_b_go 1 (pc2 := 40) (lv2 := [(1, .inl (r1.2 331 8)), (0, .inr (.inr (some (331))))]) (st2 := [.inl (0)]) rfl ?_
        cases h
        exact sd_b_rt rfl rfl rfl
      · rw [if_neg c15] at h
        refine sd_b_zt (c := .ne) (tgt := 41) rfl (decide_eq_true c15) (by decide) ?_
        refine sd_b_go 3 (pc2 := 44) (lv2 := [(1, .inl (r1.2 331 8)), (0, .inr (.inr (some (331))))]) (st2 := [.inr (.inr (some (331))), .inl (0), .inr (.inr (some (331)))]) rfl ?_
        refine sd_b_gi (k := 10) sd_o_331 rfl rfl rfl ?_
        obtain ⟨r16, e16, h⟩ := sd_bnd h
        refine sd_b_call [.inr (.inr (some (331))), .inl (0), .inl (r14.2 331 10)] [] rfl rfl sd_i_X10_puts rfl rfl (Nat.le_of_ble_eq_true rfl) (sd_rc_v sd_o_331) (m_X10_puts (by omega) e16) ?_
        refine sd_b_go 1 (pc2 := 51) (lv2 := [(1, .inl (r1.2 331 8)), (0, .inr (.inr (some (331))))]) (st2 := [.inl (1)]) rfl ?_
        cases h
        exact sd_b_rt rfl rfl rfl
theorem m_X10_value {X : Nat → List sd_V → List sd_E → sd_A → Prop} {d : Nat} (hd : 4 ≤ d) {M : sd_M} {Rr : Int × sd_M} (h : f_X10_value M = some Rr) : sd_Cal X d 149 [.inr (.inr (some (331)))] (sd_rp M) (some (.inl Rr.1), sd_rp Rr.2, 0, 0) := by
  obtain ⟨d, rfl⟩ : ∃ d2, d = d2 + 1 := ⟨d - 1, by omega⟩
  exact sd_cal_of sd_i_X10_value (Nat.le_of_ble_eq_true rfl) (t_X10_value (by omega) M Rr h)
-- X10_term
def sd_q_X10_term : sd_MI := (yX10_term, cX10_term, 2, (some .boolean), 10, 0, sd_t_X10_term)
set_option maxRecDepth 4000 in
theorem sd_i_X10_term : sd_mL[150]? = some sd_q_X10_term := rfl
def f_X10_term_74 (k9 : sd_M → Option (Int × sd_M)) (s0 : Int) (M : sd_M) : Option (Int × sd_M) := (f_X10_value (sd_s M 331 8 (sd_w ((M 331 8) + 1)))).bind fun r1 => if r1.1 = 0 then (some (0, r1.2)) else ((f_X10_puts s0 0 r1.2).bind fun r3 => k9 r3.2)
set_option maxRecDepth 4000 in
theorem t_X10_term_74 {X : Nat → List sd_V → List sd_E → sd_A → Prop} {d : Nat} (hd : 4 ≤ d) (k9 : sd_M → Option (Int × sd_M)) (hk9 : ∀ (M : sd_M) (Rr : Int × sd_M), k9 M = some Rr → sd_B X d sd_q_X10_term 9 [(0, .inr (.inr (some (331))))] [] M (some (.inl Rr.1), sd_rp Rr.2, 0, 0)) (s0 : Int) (M : sd_M) (Rr : Int × sd_M) (h : f_X10_term_74 k9 s0 M = some Rr) : sd_B X d sd_q_X10_term 74 [(0, .inr (.inr (some (331))))] [.inl (s0)] M (some (.inl Rr.1), sd_rp Rr.2, 0, 0) := by
  unfold f_X10_term_74 at h
  refine sd_b_go 3 (pc2 := 77) (lv2 := [(1, .inl (s0)), (0, .inr (.inr (some (331))))]) (st2 := [.inr (.inr (some (331))), .inr (.inr (some (331)))]) rfl ?_
  refine sd_b_gi (k := 8) sd_o_331 rfl rfl rfl ?_
  refine sd_b_go 2 (pc2 := 82) (lv2 := [(1, .inl (s0)), (0, .inr (.inr (some (331))))]) (st2 := [.inl (sd_w ((M 331 8) + 1)), .inr (.inr (some (331)))]) rfl ?_
  refine sd_b_pi (k := 8) sd_o_331 rfl rfl rfl rfl rfl ?_
  refine sd_b_go 1 (pc2 := 86) (lv2 := [(1, .inl (s0)), (0, .inr (.inr (some (331))))]) (st2 := [.inr (.inr (some (331)))]) rfl ?_
  obtain ⟨r1, e1, h⟩ := sd_bnd h
  refine sd_b_call [.inr (.inr (some (331)))] [] rfl rfl sd_i_X10_value rfl rfl (Nat.le_of_ble_eq_true rfl) (sd_rc_v sd_o_331) (m_X10_value (by omega) e1) ?_
  by_cases c2 : r1.1 = 0
  · rw [if_pos c2] at h
    refine sd_b_zf (c := .ne) rfl (decide_eq_false (not_not_intro c2)) (by decide) ?_
    refine sd_b_go 1 (pc2 := 93) (lv2 := [(1, .inl (s0)), (0, .inr (.inr (some (331))))]) (st2 := [.inl (0)]) rfl ?_
    cases h
    exact sd_b_rt rfl rfl rfl
  · rw [if_neg c2] at h
    refine sd_b_zt (c := .ne) (tgt := 94) rfl (decide_eq_true c2) (by decide) ?_
    refine sd_b_go 3 (pc2 := 97) (lv2 := [(1, .inl (s0)), (0, .inr (.inr (some (331))))]) (st2 := [.inl (0), .inl (s0), .inr (.inr (some (331)))]) rfl ?_
    obtain ⟨r3, e3, h⟩ := sd_bnd h
    refine sd_b_call [.inr (.inr (some (331))), .inl (s0), .inl (0)] [] rfl rfl sd_i_X10_puts rfl rfl (Nat.le_of_ble_eq_true rfl) (sd_rc_v sd_o_331) (m_X10_puts (by omega) e3) ?_
    refine sd_b_go 1 (pc2 := 9) (lv2 := [(1, .inl (s0)), (0, .inr (.inr (some (331))))]) (st2 := []) rfl ?_
    refine sd_b_wk [(0, .inr (.inr (some (331))))] (List.forall_mem_cons.mpr ⟨rfl, (fun _ h0 => absurd h0 List.not_mem_nil)⟩) ?_
    exact hk9 r3.2 _ h
def f_X10_term_36 (k9 : sd_M → Option (Int × sd_M)) (M : sd_M) : Option (Int × sd_M) := if 0 ≤ (M 331 8) ∧ (M 331 8) < 400 then (if (M 332 (M 331 8).toNat) = 42 then (f_X10_term_74 k9 4 M) else (if 0 ≤ (M 331 8) ∧ (M 331 8) < 400 then (if (M 332 (M 331 8).toNat) = 47 then (f_X10_term_74 k9 5 M) else (f_X10_term_74 k9 14 M)) else none)) else none
set_option maxRecDepth 4000 in
theorem t_X10_term_36 {X : Nat → List sd_V → List sd_E → sd_A → Prop} {d : Nat} (hd : 4 ≤ d) (k9 : sd_M → Option (Int × sd_M)) (hk9 : ∀ (M : sd_M) (Rr : Int × sd_M), k9 M = some Rr → sd_B X d sd_q_X10_term 9 [(0, .inr (.inr (some (331))))] [] M (some (.inl Rr.1), sd_rp Rr.2, 0, 0)) (M : sd_M) (Rr : Int × sd_M) (h : f_X10_term_36 k9 M = some Rr) : sd_B X d sd_q_X10_term 36 [(0, .inr (.inr (some (331))))] [] M (some (.inl Rr.1), sd_rp Rr.2, 0, 0) := by
  unfold f_X10_term_36 at h
  refine sd_b_go 1 (pc2 := 37) (lv2 := [(0, .inr (.inr (some (331))))]) (st2 := [.inr (.inr (some (331)))]) rfl ?_
  refine sd_b_gr (k := 0) sd_o_331 rfl rfl rfl ?_
  refine sd_b_go 1 (pc2 := 41) (lv2 := [(0, .inr (.inr (some (331))))]) (st2 := [.inr (.inr (some (331))), .inr (.inr (some (332)))]) rfl ?_
  refine sd_b_gi (k := 8) sd_o_331 rfl rfl rfl ?_
  obtain ⟨g1, h⟩ := sd_if h
  refine sd_b_ab (sd_oa sd_o_331 (by decide) (off := 1) (List.mem_of_getElem? (i := 0) rfl)) (by decide) g1 rfl ?_
  refine sd_b_go 1 (pc2 := 47) (lv2 := [(0, .inr (.inr (some (331))))]) (st2 := [.inl (42), .inl (M 332 (M 331 8).toNat)]) rfl ?_
  by_cases c2 : (M 332 (M 331 8).toNat) = 42
  · rw [if_pos c2] at h
    refine sd_b_cf (c := .ne) rfl (decide_eq_false (not_not_intro c2)) (by decide) ?_
    refine sd_b_go 2 (pc2 := 74) (lv2 := [(0, .inr (.inr (some (331))))]) (st2 := [.inl (4)]) rfl ?_
    refine sd_b_wk [(0, .inr (.inr (some (331))))] (List.forall_mem_cons.mpr ⟨rfl, (fun _ h0 => absurd h0 List.not_mem_nil)⟩) ?_
    exact t_X10_term_74 hd k9 hk9 4 M _ h
  · rw [if_neg c2] at h
    refine sd_b_ct (c := .ne) (tgt := 54) rfl (decide_eq_true c2) (by decide) ?_
    refine sd_b_go 1 (pc2 := 55) (lv2 := [(0, .inr (.inr (some (331))))]) (st2 := [.inr (.inr (some (331)))]) rfl ?_
    refine sd_b_gr (k := 0) sd_o_331 rfl rfl rfl ?_
    refine sd_b_go 1 (pc2 := 59) (lv2 := [(0, .inr (.inr (some (331))))]) (st2 := [.inr (.inr (some (331))), .inr (.inr (some (332)))]) rfl ?_
    refine sd_b_gi (k := 8) sd_o_331 rfl rfl rfl ?_
    obtain ⟨g3, h⟩ := sd_if h
    refine sd_b_ab (sd_oa sd_o_331 (by decide) (off := 1) (List.mem_of_getElem? (i := 0) rfl)) (by decide) g3 rfl ?_
    refine sd_b_go 1 (pc2 := 65) (lv2 := [(0, .inr (.inr (some (331))))]) (st2 := [.inl (47), .inl (M 332 (M 331 8).toNat)]) rfl ?_
    by_cases c4 : (M 332 (M 331 8).toNat) = 47
    · rw [if_pos c4] at h
      refine sd_b_cf (c := .ne) rfl (decide_eq_false (not_not_intro c4)) (by decide) ?_
      refine sd_b_go 2 (pc2 := 74) (lv2 := [(0, .inr (.inr (some (331))))]) (st2 := [.inl (5)]) rfl ?_
      refine sd_b_wk [(0, .inr (.inr (some (331))))] (List.forall_mem_cons.mpr ⟨rfl, (fun _ h0 => absurd h0 List.not_mem_nil)⟩) ?_
      exact t_X10_term_74 hd k9 hk9 5 M _ h
    · rw [if_neg c4] at h
      refine sd_b_ct (c := .ne) (tgt := 72) rfl (decide_eq_true c4) (by decide) ?_
      refine sd_b_go 1 (pc2 := 74) (lv2 := [(0, .inr (.inr (some (331))))]) (st2 := [.inl (14)]) rfl ?_
      refine sd_b_wk [(0, .inr (.inr (some (331))))] (List.forall_mem_cons.mpr ⟨rfl, (fun _ h0 => absurd h0 List.not_mem_nil)⟩) ?_
      exact t_X10_term_74 hd k9 hk9 14 M _ h
def f_X10_term_9 : Nat → sd_M → Option (Int × sd_M)
  | 0, _ => none
  | n + 1, M => (f_X10_see M).bind fun r1 => if r1.1 = 42 then (f_X10_term_36 (f_X10_term_9 n) r1.2) else ((f_X10_see r1.2).bind fun r3 => if r3.1 = 47 then (f_X10_term_36 (f_X10_term_9 n) r3.2) else ((f_X10_see r3.2).bind fun r5 => if r5.1 = 37 then (f_X10_term_36 (f_X10_term_9 n) r5.2) else (some (1, r5.2))))
set_option maxRecDepth 4000 in
theorem t_X10_term_9 {X : Nat → List sd_V → List sd_E → sd_A → Prop} {d : Nat} (hd : 4 ≤ d) : ∀ (n : Nat) (M : sd_M) (Rr : Int × sd_M), f_X10_term_9 n M = some Rr → sd_B X d sd_q_X10_term 9 [(0, .inr (.inr (some (331))))] [] M (some (.inl Rr.1), sd_rp Rr.2, 0, 0) := by
  intro n
  induction n with
  | zero => intro M Rr h; cases h
  | succ n ih =>
    intro M Rr h
    rw [f_X10_term_9] at h
    refine sd_b_go 1 (pc2 := 10) (lv2 := [(0, .inr (.inr (some (331))))]) (st2 := [.inr (.inr (some (331)))]) rfl ?_
    obtain ⟨r1, e1, h⟩ := sd_bnd h
    refine sd_b_call [.inr (.inr (some (331)))] [] rfl rfl sd_i_X10_see rfl rfl (Nat.le_of_ble_eq_true rfl) (sd_rc_v sd_o_331) (m_X10_see (by omega) e1) ?_
    refine sd_b_go 1 (pc2 := 15) (lv2 := [(0, .inr (.inr (some (331))))]) (st2 := [.inl (42), .inl (r1.1)]) rfl ?_
    by_cases c2 : r1.1 = 42
    · rw [if_pos c2] at h
      refine sd_b_ct (c := .eq) (tgt := 36) rfl (decide_eq_true c2) (by decide) ?_
      refine sd_b_wk [(0, .inr (.inr (some (331))))] (List.forall_mem_cons.mpr ⟨rfl, (fun _ h0 => absurd h0 List.not_mem_nil)⟩) ?_
      exact t_X10_term_36 hd (f_X10_term_9 n) ih r1.2 _ h
    · rw [if_neg c2] at h
      refine sd_b_cf (c := .eq) rfl (decide_eq_false c2) (by decide) ?_
      refine sd_b_go 1 (pc2 := 19) (lv2 := [(0, .inr (.inr (some (331))))]) (st2 := [.inr (.inr (some (331)))]) rfl ?_
      obtain ⟨r3, e3, h⟩ := sd_bnd h
      refine sd_b_call [.inr (.inr (some (331)))] [] rfl rfl sd_i_X10_see rfl rfl (Nat.le_of_ble_eq_true rfl) (sd_rc_v sd_o_331) (m_X10_see (by omega) e3) ?_
      refine sd_b_go 1 (pc2 := 24) (lv2 := [(0, .inr (.inr (some (331))))]) (st2 := [.inl (47), .inl (r3.1)]) rfl ?_
      by_cases c4 : r3.1 = 47
      · rw [if_pos c4] at h
        refine sd_b_ct (c := .eq) (tgt := 36) rfl (decide_eq_true c4) (by decide) ?_
        refine sd_b_wk [(0, .inr (.inr (some (331))))] (List.forall_mem_cons.mpr ⟨rfl, (fun _ h0 => absurd h0 List.not_mem_nil)⟩) ?_
        exact t_X10_term_36 hd (f_X10_term_9 n) ih r3.2 _ h
      · rw [if_neg c4] at h
        refine sd_b_cf (c := .eq) rfl (decide_eq_false c4) (by decide) ?_
        refine sd_b_go 1 (pc2 := 28) (lv2 := [(0, .inr (.inr (some (331))))]) (st2 := [.inr (.inr (some (331)))]) rfl ?_
        obtain ⟨r5, e5, h⟩ := sd_bnd h
        refine sd_b_call [.inr (.inr (some (331)))] [] rfl rfl sd_i_X10_see rfl rfl (Nat.le_of_ble_eq_true rfl) (sd_rc_v sd_o_331) (m_X10_see (by omega) e5) ?_
        refine sd_b_go 1 (pc2 := 33) (lv2 := [(0, .inr (.inr (some (331))))]) (st2 := [.inl (37), .inl (r5.1)]) rfl ?_
        by_cases c6 : r5.1 = 37
        · rw [if_pos c6] at h
          refine sd_b_cf (c := .ne) rfl (decide_eq_false (not_not_intro c6)) (by decide) ?_
          refine sd_b_wk [(0, .inr (.inr (some (331))))] (List.forall_mem_cons.mpr ⟨rfl, (fun _ h0 => absurd h0 List.not_mem_nil)⟩) ?_
          exact t_X10_term_36 hd (f_X10_term_9 n) ih r5.2 _ h
        · rw [if_neg c6] at h
          refine sd_b_ct (c := .ne) (tgt := 103) rfl (decide_eq_true c6) (by decide) ?_
          refine sd_b_go 1 (pc2 := 104) (lv2 := [(0, .inr (.inr (some (331))))]) (st2 := [.inl (1)]) rfl ?_
          cases h
          exact sd_b_rt rfl rfl rfl
def f_X10_term (M : sd_M) : Option (Int × sd_M) := (f_X10_value M).bind fun r1 => if r1.1 = 0 then (some (0, r1.2)) else (f_X10_term_9 4000 r1.2)
set_option maxRecDepth 4000 in
theorem t_X10_term {X : Nat → List sd_V → List sd_E → sd_A → Prop} {d : Nat} (hd : 4 ≤ d) (M : sd_M) (Rr : Int × sd_M) (h : f_X10_term M = some Rr) : sd_B X d sd_q_X10_term 0 [(0, .inr (.inr (some (331))))] [] M (some (.inl Rr.1), sd_rp Rr.2, 0, 0) := by
  unfold f_X10_term at h
  refine sd_b_go 1 (pc2 := 1) (lv2 := [(0, .inr (.inr (some (331))))]) (st2 := [.inr (.inr (some (331)))]) rfl ?_
  obtain ⟨r1, e1, h⟩ := sd_bnd h
  refine sd_b_call [.inr (.inr (some (331)))] [] rfl rfl sd_i_X10_value rfl rfl (Nat.le_of_ble_eq_true rfl) (sd_rc_v sd_o_331) (m_X10_value (by omega) e1) ?_
  by_cases c2 : r1.1 = 0
  · rw [if_pos c2] at h
    refine sd_b_zf (c := .ne) rfl (decide_eq_false (not_not_intro c2)) (by decide) ?_
    refine sd_b_go 1 (pc2 := 8) (lv2 := [(0, .inr (.inr (some (331))))]) (st2 := [.inl (0)]) rfl ?_
    cases h
    exact sd_b_rt rfl rfl rfl
  · rw [if_neg c2] at h
    refine sd_b_zt (c := .ne) (tgt := 9) rfl (decide_eq_true c2) (by decide) ?_
    refine sd_b_wk [(0, .inr (.inr (some (331))))] (List.forall_mem_cons.mpr ⟨rfl, (fun _ h0 => absurd h0 List.not_mem_nil)⟩) ?_
    exact t_X10_term_9 hd 4000 r1.2 _ h
theorem m_X10_term {X : Nat → List sd_V → List sd_E → sd_A → Prop} {d : Nat} (hd : 5 ≤ d) {M : sd_M} {Rr : Int × sd_M} (h : f_X10_term M = some Rr) : sd_Cal X d 150 [.inr (.inr (some (331)))] (sd_rp M) (some (.inl Rr.1), sd_rp Rr.2, 0, 0) := by
  obtain ⟨d, rfl⟩ : ∃ d2, d = d2 + 1 := ⟨d - 1, by omega⟩
  exact sd_cal_of sd_i_X10_term (Nat.le_of_ble_eq_true rfl) (t_X10_term (by omega) M Rr h)
-- X10_sum
def sd_q_X10_sum : sd_MI := (yX10_sum, cX10_sum, 2, (some .boolean), 10, 0, sd_t_X10_sum)
set_option maxRecDepth 4000 in
theorem sd_i_X10_sum : sd_mL[151]? = some sd_q_X10_sum := rfl
def f_X10_sum_46 (k9 : sd_M → Option (Int × sd_M)) (s0 : Int) (M : sd_M) : Option (Int × sd_M) := (f_X10_term (sd_s M 331 8 (sd_w ((M 331 8) + 1)))).bind fun r1 => if r1.1 = 0 then (some (0, r1.2)) else ((f_X10_puts s0 0 r1.2).bind fun r3 => k9 r3.2)
set_option maxRecDepth 4000 in
theorem t_X10_sum_46 {X : Nat → List sd_V → List sd_E → sd_A → Prop} {d : Nat} (hd : 5 ≤ d) (k9 : sd_M → Option (Int × sd_M)) (hk9 : ∀ (M : sd_M) (Rr : Int × sd_M), k9 M = some Rr → sd_B X d sd_q_X10_sum 9 [(0, .inr (.inr (some (331))))] [] M (some (.inl Rr.1), sd_rp Rr.2, 0, 0)) (s0 : Int) (M : sd_M) (Rr : Int × sd_M) (h : f_X10_sum_46 k9 s0 M = some Rr) : sd_B X d sd_q_X10_sum 46 [(0, .inr (.inr (some (331))))] [.inl (s0)] M (some (.inl Rr.1), sd_rp Rr.2, 0, 0) := by
  unfold f_X10_sum_46 at h
  refine sd_b_go 3 (pc2 := 49) (lv2 := [(1, .inl (s0)), (0, .inr (.inr (some (331))))]) (st2 := [.inr (.inr (some (331))), .inr (.inr (some (331)))]) rfl ?_
  refine sd_b_gi (k := 8) sd_o_331 rfl rfl rfl ?_
  refine sd_b_go 2 (pc2 := 54) (lv2 := [(1, .inl (s0)), (0, .inr (.inr (some (331))))]) (st2 := [.inl (sd_w ((M 331 8) + 1)), .inr (.inr (some (331)))]) rfl ?_
  refine sd_b_pi (k := 8) sd_o_331 rfl rfl rfl rfl rfl ?_
  refine sd_b_go 1 (pc2 := 58) (lv2 := [(1, .inl (s0)), (0, .inr (.inr (some (331))))]) (st2 := [.inr (.inr (some (331)))]) rfl ?_
  obtain ⟨r1, e1, h⟩ := sd_bnd h
  refine sd_b_call [.inr (.inr (some (331)))] [] rfl rfl sd_i_X10_term rfl rfl (Nat.le_of_ble_eq_true rfl) (sd_rc_v sd_o_331) (m_X10_term (by omega) e1) ?_
  by_cases c2 : r1.1 = 0
  · rw [if_pos c2] at h
    refine sd_b_zf (c := .ne) rfl (decide_eq_false (not_not_intro c2)) (by decide) ?_
    refine sd_b_go 1 (pc2 := 65) (lv2 := [(1, .inl (s0)), (0, .inr (.inr (some (331))))]) (st2 := [.inl (0)]) rfl ?_
    cases h
    exact sd_b_rt rfl rfl rfl
  · rw [if_neg c2] at h
    refine sd_b_zt (c := .ne) (tgt := 66) rfl (decide_eq_true c2) (by decide) ?_
    refine sd_b_go 3 (pc2 := 69) (lv2 := [(1, .inl (s0)), (0, .inr (.inr (some (331))))]) (st2 := [.inl (0), .inl (s0), .inr (.inr (some (331)))]) rfl ?_
    obtain ⟨r3, e3, h⟩ := sd_bnd h
    refine sd_b_call [.inr (.inr (some (331))), .inl (s0), .inl (0)] [] rfl rfl sd_i_X10_puts rfl rfl (Nat.le_of_ble_eq_true rfl) (sd_rc_v sd_o_331) (m_X10_puts (by omega) e3) ?_
    refine sd_b_go 1 (pc2 := 9) (lv2 := [(1, .inl (s0)), (0, .inr (.inr (some (331))))]) (st2 := []) rfl ?_
    refine sd_b_wk [(0, .inr (.inr (some (331))))] (List.forall_mem_cons.mpr ⟨rfl, (fun _ h0 => absurd h0 List.not_mem_nil)⟩) ?_
    exact hk9 r3.2 _ h
def f_X10_sum_27 (k9 : sd_M → Option (Int × sd_M)) (M : sd_M) : Option (Int × sd_M) := if 0 ≤ (M 331 8) ∧ (M 331 8) < 400 then (if (M 332 (M 331 8).toNat) = 43 then (f_X10_sum_46 k9 2 M) else (f_X10_sum_46 k9 3 M)) else none
set_option maxRecDepth 4000 in
theorem t_X10_sum_27 {X : Nat → List sd_V → List sd_E → sd_A → Prop} {d : Nat} (hd : 5 ≤ d) (k9 : sd_M → Option (Int × sd_M)) (hk9 : ∀ (M : sd_M) (Rr : Int × sd_M), k9 M = some Rr → sd_B X d sd_q_X10_sum 9 [(0, .inr (.inr (some (331))))] [] M (some (.inl Rr.1), sd_rp Rr.2, 0, 0)) (M : sd_M) (Rr : Int × sd_M) (h : f_X10_sum_27 k9 M = some Rr) : sd_B X d sd_q_X10_sum 27 [(0, .inr (.inr (some (331))))] [] M (some (.inl Rr.1), sd_rp Rr.2, 0, 0) := by
  unfold f_X10_sum_27 at h
  refine sd_b_go 1 (pc2 := 28) (lv2 := [(0, .inr (.inr (some (331))))]) (st2 := [.inr (.inr (some (331)))]) rfl ?_
  refine sd_b_gr (k := 0) sd_o_331 rfl rfl rfl ?_
  refine sd_b_go 1 (pc2 := 32) (lv2 := [(0, .inr (.inr (some (331))))]) (st2 := [.inr (.inr (some (331))), .inr (.inr (some (332)))]) rfl ?_
  refine sd_b_gi (k := 8) sd_o_331 rfl rfl rfl ?_
  obtain ⟨g1, h⟩ := sd_if h
  refine sd_b_ab (sd_oa sd_o_331 (by decide) (off := 1) (List.mem_of_getElem? (i := 0) rfl)) (by decide) g1 rfl ?_
  refine sd_b_go 1 (pc2 := 38) (lv2 := [(0, .inr (.inr (some (331))))]) (st2 := [.inl (43), .inl (M 332 (M 331 8).toNat)]) rfl ?_
  by_cases c2 : (M 332 (M 331 8).toNat) = 43
  · rw [if_pos c2] at h
    refine sd_b_cf (c := .ne) rfl (decide_eq_false (not_not_intro c2)) (by decide) ?_
    refine sd_b_go 2 (pc2 := 46) (lv2 := [(0, .inr (.inr (some (331))))]) (st2 := [.inl (2)]) rfl ?_
    refine sd_b_wk [(0, .inr (.inr (some (331))))] (List.forall_mem_cons.mpr ⟨rfl, (fun _ h0 => absurd h0 List.not_mem_nil)⟩) ?_
    exact t_X10_sum_46 hd k9 hk9 2 M _ h
  · rw [if_neg c2] at h
    refine sd_b_ct (c := .ne) (tgt := 45) rfl (decide_eq_true c2) (by decide) ?_
    refine sd_b_go 1 (pc2 := 46) (lv2 := [(0, .inr (.inr (some (331))))]) (st2 := [.inl (3)]) rfl ?_
    refine sd_b_wk [(0, .inr (.inr (some (331))))] (List.forall_mem_cons.mpr ⟨rfl, (fun _ h0 => absurd h0 List.not_mem_nil)⟩) ?_
    exact t_X10_sum_46 hd k9 hk9 3 M _ h
def f_X10_sum_9 : Nat → sd_M → Option (Int × sd_M)
  | 0, _ => none
  | n + 1, M => (f_X10_see M).bind fun r1 => if r1.1 = 43 then (f_X10_sum_27 (f_X10_sum_9 n) r1.2) else ((f_X10_see r1.2).bind fun r3 => if r3.1 = 45 then (f_X10_sum_27 (f_X10_sum_9 n) r3.2) else (some (1, r3.2)))
set_option maxRecDepth 4000 in
theorem t_X10_sum_9 {X : Nat → List sd_V → List sd_E → sd_A → Prop} {d : Nat} (hd : 5 ≤ d) : ∀ (n : Nat) (M : sd_M) (Rr : Int × sd_M), f_X10_sum_9 n M = some Rr → sd_B X d sd_q_X10_sum 9 [(0, .inr (.inr (some (331))))] [] M (some (.inl Rr.1), sd_rp Rr.2, 0, 0) := by
  intro n
  induction n with
  | zero => intro M Rr h; cases h
  | succ n ih =>
    intro M Rr h
    rw [f_X10_sum_9] at h
    refine sd_b_go 1 (pc2 := 10) (lv2 := [(0, .inr (.inr (some (331))))]) (st2 := [.inr (.inr (some (331)))]) rfl ?_
    obtain ⟨r1, e1, h⟩ := sd_bnd h
    refine sd_b_call [.inr (.inr (some (331)))] [] rfl rfl sd_i_X10_see rfl rfl (Nat.le_of_ble_eq_true rfl) (sd_rc_v sd_o_331) (m_X10_see (by omega) e1) ?_
    refine sd_b_go 1 (pc2 := 15) (lv2 := [(0, .inr (.inr (some (331))))]) (st2 := [.inl (43), .inl (r1.1)]) rfl ?_
    by_cases c2 : r1.1 = 43
    · rw [if_pos c2] at h
      refine sd_b_ct (c := .eq) (tgt := 27) rfl (decide_eq_true c2) (by decide) ?_
      refine sd_b_wk [(0, .inr (.inr (some (331))))] (List.forall_mem_cons.mpr ⟨rfl, (fun _ h0 => absurd h0 List.not_mem_nil)⟩) ?_
      exact t_X10_sum_27 hd (f_X10_sum_9 n) ih r1.2 _ h
    · rw [if_neg c2] at h
      refine sd_b_cf (c := .eq) rfl (decide_eq_false c2) (by decide) ?_
      refine sd_b_go 1 (pc2 := 19) (lv2 := [(0, .inr (.inr (some (331))))]) (st2 := [.inr (.inr (some (331)))]) rfl ?_
      obtain ⟨r3, e3, h⟩ := sd_bnd h
      refine sd_b_call [.inr (.inr (some (331)))] [] rfl rfl sd_i_X10_see rfl rfl (Nat.le_of_ble_eq_true rfl) (sd_rc_v sd_o_331) (m_X10_see (by omega) e3) ?_
      refine sd_b_go 1 (pc2 := 24) (lv2 := [(0, .inr (.inr (some (331))))]) (st2 := [.inl (45), .inl (r3.1)]) rfl ?_
      by_cases c4 : r3.1 = 45
      · rw [if_pos c4] at h
        refine sd_b_cf (c := .ne) rfl (decide_eq_false (not_not_intro c4)) (by decide) ?_
        refine sd_b_wk [(0, .inr (.inr (some (331))))] (List.forall_mem_cons.mpr ⟨rfl, (fun _ h0 => absurd h0 List.not_mem_nil)⟩) ?_
        exact t_X10_sum_27 hd (f_X10_sum_9 n) ih r3.2 _ h
      · rw [if_neg c4] at h
        refine sd_b_ct (c := .ne) (tgt := 75) rfl (decide_eq_true c4) (by decide) ?_
        refine sd_b_go 1 (pc2 := 76) (lv2 := [(0, .inr (.inr (some (331))))]) (st2 := [.inl (1)]) rfl ?_
        cases h
        exact sd_b_rt rfl rfl rfl
def f_X10_sum (M : sd_M) : Option (Int × sd_M) := (f_X10_term M).bind fun r1 => if r1.1 = 0 then (some (0, r1.2)) else (f_X10_sum_9 4000 r1.2)
set_option maxRecDepth 4000 in
theorem t_X10_sum {X : Nat → List sd_V → List sd_E → sd_A → Prop} {d : Nat} (hd : 5 ≤ d) (M : sd_M) (Rr : Int × sd_M) (h : f_X10_sum M = some Rr) : sd_B X d sd_q_X10_sum 0 [(0, .inr (.inr (some (331))))] [] M (some (.inl Rr.1), sd_rp Rr.2, 0, 0) := by
  unfold f_X10_sum at h
  refine sd_b_go 1 (pc2 := 1) (lv2 := [(0, .inr (.inr (some (331))))]) (st2 := [.inr (.inr (some (331)))]) rfl ?_
  obtain ⟨r1, e1, h⟩ := sd_bnd h
  refine sd_b_call [.inr (.inr (some (331)))] [] rfl rfl sd_i_X10_term rfl rfl (Nat.le_of_ble_eq_true rfl) (sd_rc_v sd_o_331) (m_X10_term (by omega) e1) ?_
  by_cases c2 : r1.1 = 0
  · rw [if_pos c2] at h
    refine sd_b_zf (c := .ne) rfl (decide_eq_false (not_not_intro c2)) (by decide) ?_
    refine sd_b_go 1 (pc2 := 8) (lv2 := [(0, .inr (.inr (some (331))))]) (st2 := [.inl (0)]) rfl ?_
    cases h
    exact sd_b_rt rfl rfl rfl
  · rw [if_neg c2] at h
    refine sd_b_zt (c := .ne) (tgt := 9) rfl (decide_eq_true c2) (by decide) ?_
    refine sd_b_wk [(0, .inr (.inr (some (331))))] (List.forall_mem_cons.mpr ⟨rfl, (fun _ h0 => absurd h0 List.not_mem_nil)⟩) ?_
    exact t_X10_sum_9 hd 4000 r1.2 _ h
theorem m_X10_sum {X : Nat → List sd_V → List sd_E → sd_A → Prop} {d : Nat} (hd : 6 ≤ d) {M : sd_M} {Rr : Int × sd_M} (h : f_X10_sum M = some Rr) : sd_Cal X d 151 [.inr (.inr (some (331)))] (sd_rp M) (some (.inl Rr.1), sd_rp Rr.2, 0, 0) := by
  obtain ⟨d, rfl⟩ : ∃ d2, d = d2 + 1 := ⟨d - 1, by omega⟩
  exact sd_cal_of sd_i_X10_sum (Nat.le_of_ble_eq_true rfl) (t_X10_sum (by omega) M Rr h)
-- X10_compare
def sd_q_X10_compare : sd_MI := (yX10_compare, cX10_compare, 5, (some .boolean), 10, 0, sd_t_X10_compare)
set_option maxRecDepth 4000 in
theorem sd_i_X10_compare : sd_mL[152]? = some sd_q_X10_compare := rfl
def f_X10_compare_152 (s0 : Int) (M : sd_M) : Option (Int × sd_M) := (f_X10_sum M).bind fun r1 => if r1.1 = 0 then (some (0, r1.2)) else ((f_X10_puts (sd_w (6 + s0)) 0 r1.2).bind fun r3 => some (1, r3.2))
set_option maxRecDepth 4000 in
theorem t_X10_compare_152 {X : Nat → List sd_V → List sd_E → sd_A → Prop} {d : Nat} (hd : 6 ≤ d) (s0 : Int) (M : sd_M) (Rr : Int × sd_M) (h : f_X10_compare_152 s0 M = some Rr) : sd_B X d sd_q_X10_compare 152 [(0, .inr (.inr (some (331))))] [.inl (s0)] M (some (.inl Rr.1), sd_rp Rr.2, 0, 0) := by
  unfold f_X10_compare_152 at h
  refine sd_b_go 2 (pc2 := 155) (lv2 := [(4, .inl (s0)), (0, .inr (.inr (some (331))))]) (st2 := [.inr (.inr (some (331)))]) rfl ?_
  obtain ⟨r1, e1, h⟩ := sd_bnd h
  refine sd_b_call [.inr (.inr (some (331)))] [] rfl rfl sd_i_X10_sum rfl rfl (Nat.le_of_ble_eq_true rfl) (sd_rc_v sd_o_331) (m_X10_sum (by omega) e1) ?_
  by_cases c2 : r1.1 = 0
  · rw [if_pos c2] at h
    refine sd_b_zf (c := .ne) rfl (decide_eq_false (not_not_intro c2)) (by decide) ?_
    refine sd_b_go 1 (pc2 := 162) (lv2 := [(4, .inl (s0)), (0, .inr (.inr (some (331))))]) (st2 := [.inl (0)]) rfl ?_
    cases h
    exact sd_b_rt rfl rfl rfl
  · rw [if_neg c2] at h
    refine sd_b_zt (c := .ne) (tgt := 163) rfl (decide_eq_true c2) (by decide) ?_
    refine sd_b_go 5 (pc2 := 170) (lv2 := [(4, .inl (s0)), (0, .inr (.inr (some (331))))]) (st2 := [.inl (0), .inl (sd_w (6 + s0)), .inr (.inr (some (331)))]) rfl ?_
    obtain ⟨r3, e3, h⟩ := sd_bnd h
    refine sd_b_call [.inr (.inr (some (331))), .inl (sd_w (6 + s0)), .inl (0)] [] rfl rfl sd_i_X10_puts rfl rfl (Nat.le_of_ble_eq_true rfl) (sd_rc_v sd_o_331) (m_X10_puts (by omega) e3) ?_
    refine sd_b_go 1 (pc2 := 174) (lv2 := [(4, .inl (s0)), (0, .inr (.inr (some (331))))]) (st2 := [.inl (1)]) rfl ?_
    cases h
    exact sd_b_rt rfl rfl rfl
def f_X10_compare_105 (v1 : Int) (v2 : Int) (v3 : Int) (M : sd_M) : Option (Int × sd_M) := (f_X10_makes v2 M).bind fun r1 => if r1.1 = 0 then (some (0, r1.2)) else (if v1 = 60 then (if v3 = 0 then (f_X10_compare_152 0 r1.2) else (f_X10_compare_152 1 r1.2)) else (if v1 = 61 then (f_X10_compare_152 2 r1.2) else (if v3 = 0 then (f_X10_compare_152 4 r1.2) else (f_X10_compare_152 3 r1.2))))
set_option maxRecDepth 4000 in
theorem t_X10_compare_105 {X : Nat → List sd_V → List sd_E → sd_A → Prop} {d : Nat} (hd : 6 ≤ d) (v1 : Int) (v2 : Int) (v3 : Int) (M : sd_M) (Rr : Int × sd_M) (h : f_X10_compare_105 v1 v2 v3 M = some Rr) : sd_B X d sd_q_X10_compare 105 [(0, .inr (.inr (some (331)))), (1, .inl (v1)), (2, .inl (v2)), (3, .inl (v3))] [] M (some (.inl Rr.1), sd_rp Rr.2, 0, 0) := by
  unfold f_X10_compare_105 at h
  refine sd_b_go 2 (pc2 := 107) (lv2 := [(0, .inr (.inr (some (331)))), (1, .inl (v1)), (2, .inl (v2)), (3, .inl (v3))]) (st2 := [.inl (v2), .inr (.inr (some (331)))]) rfl ?_
  obtain ⟨r1, e1, h⟩ := sd_bnd h
  refine sd_b_call [.inr (.inr (some (331))), .inl (v2)] [] rfl rfl sd_i_X10_makes rfl rfl (Nat.le_of_ble_eq_true rfl) (sd_rc_v sd_o_331) (m_X10_makes (by omega) e1) ?_
  by_cases c2 : r1.1 = 0
  · rw [if_pos c2] at h
    refine sd_b_zf (c := .ne) rfl (decide_eq_false (not_not_intro c2)) (by decide) ?_
    refine sd_b_go 1 (pc2 := 114) (lv2 := [(0, .inr (.inr (some (331)))), (1, .inl (v1)), (2, .inl (v2)), (3, .inl (v3))]) (st2 := [.inl (0)]) rfl ?_
    cases h
    exact sd_b_rt rfl rfl rfl
  · rw [if_neg c2] at h
    refine sd_b_zt (c := .ne) (tgt := 115) rfl (decide_eq_true c2) (by decide) ?_
    refine sd_b_go 2 (pc2 := 118) (lv2 := [(0, .inr (.inr (some (331)))), (1, .inl (v1)), (2, .inl (v2)), (3, .inl (v3))]) (st2 := [.inl (60), .inl (v1)]) rfl ?_
    by_cases c3 : v1 = 60
    · rw [if_pos c3] at h
      refine sd_b_cf (c := .ne) rfl (decide_eq_false (not_not_intro c3)) (by decide) ?_
      refine sd_b_go 1 (pc2 := 122) (lv2 := [(0, .inr (.inr (some (331)))), (1, .inl (v1)), (2, .inl (v2)), (3, .inl (v3))]) (st2 := [.inl (v3)]) rfl ?_
      by_cases c6 : v3 = 0
      · rw [if_pos c6] at h
        refine sd_b_zt (c := .eq) (tgt := 129) rfl (decide_eq_true c6) (by decide) ?_
        refine sd_b_go 2 (pc2 := 152) (lv2 := [(0, .inr (.inr (some (331)))), (1, .inl (v1)), (2, .inl (v2)), (3, .inl (v3))]) (st2 := [.inl (0)]) rfl ?_
        refine sd_b_wk [(0, .inr (.inr (some (331))))] (List.forall_mem_cons.mpr ⟨rfl, (fun _ h0 => absurd h0 List.not_mem_nil)⟩) ?_
        exact t_X10_compare_152 hd 0 r1.2 _ h
      · rw [if_neg c6] at h
        refine sd_b_zf (c := .eq) rfl (decide_eq_false c6) (by decide) ?_
        refine sd_b_go 2 (pc2 := 152) (lv2 := [(0, .inr (.inr (some (331)))), (1, .inl (v1)), (2, .inl (v2)), (3, .inl (v3))]) (st2 := [.inl (1)]) rfl ?_
        refine sd_b_wk [(0, .inr (.inr (some (331))))] (List.forall_mem_cons.mpr ⟨rfl, (fun _ h0 => absurd h0 List.not_mem_nil)⟩) ?_
        exact t_X10_compare_152 hd 1 r1.2 _ h
    · rw [if_neg c3] at h
      refine sd_b_ct (c := .ne) (tgt := 133) rfl (decide_eq_true c3) (by decide) ?_
      refine sd_b_go 2 (pc2 := 136) (lv2 := [(0, .inr (.inr (some (331)))), (1, .inl (v1)), (2, .inl (v2)), (3, .inl (v3))]) (st2 := [.inl (61), .inl (v1)]) rfl ?_
      by_cases c4 : v1 = 61
      · rw [if_pos c4] at h
        refine sd_b_cf (c := .ne) rfl (decide_eq_false (not_not_intro c4)) (by decide) ?_
        refine sd_b_go 2 (pc2 := 152) (lv2 := [(0, .inr (.inr (some (331)))), (1, .inl (v1)), (2, .inl (v2)), (3, .inl (v3))]) (st2 := [.inl (2)]) rfl ?_
        refine sd_b_wk [(0, .inr (.inr (some (331))))] (List.forall_mem_cons.mpr ⟨rfl, (fun _ h0 => absurd h0 List.not_mem_nil)⟩) ?_
        exact t_X10_compare_152 hd 2 r1.2 _ h
      · rw [if_neg c4] at h
        refine sd_b_ct (c := .ne) (tgt := 143) rfl (decide_eq_true c4) (by decide) ?_
        refine sd_b_go 1 (pc2 := 144) (lv2 := [(0, .inr (.inr (some (331)))), (1, .inl (v1)), (2, .inl (v2)), (3, .inl (v3))]) (st2 := [.inl (v3)]) rfl ?_
        by_cases c5 : v3 = 0
        · rw [if_pos c5] at h
          refine sd_b_zt (c := .eq) (tgt := 151) rfl (decide_eq_true c5) (by decide) ?_
          refine sd_b_go 1 (pc2 := 152) (lv2 := [(0, .inr (.inr (some (331)))), (1, .inl (v1)), (2, .inl (v2)), (3, .inl (v3))]) (st2 := [.inl (4)]) rfl ?_
          refine sd_b_wk [(0, .inr (.inr (some (331))))] (List.forall_mem_cons.mpr ⟨rfl, (fun _ h0 => absurd h0 List.not_mem_nil)⟩) ?_
          exact t_X10_compare_152 hd 4 r1.2 _ h
        · rw [if_neg c5] at h
          refine sd_b_zf (c := .eq) rfl (decide_eq_false c5) (by decide) ?_
          refine sd_b_go 2 (pc2 := 152) (lv2 := [(0, .inr (.inr (some (331)))), (1, .inl (v1)), (2, .inl (v2)), (3, .inl (v3))]) (st2 := [.inl (3)]) rfl ?_
          refine sd_b_wk [(0, .inr (.inr (some (331))))] (List.forall_mem_cons.mpr ⟨rfl, (fun _ h0 => absurd h0 List.not_mem_nil)⟩) ?_
          exact t_X10_compare_152 hd 3 r1.2 _ h
def f_X10_compare_90 (v1 : Int) (v2 : Int) (s0 : Int) (M : sd_M) : Option (Int × sd_M) := if s0 = 0 then (f_X10_compare_105 v1 v2 s0 M) else (f_X10_compare_105 v1 v2 s0 (sd_s M 331 8 (sd_w ((M 331 8) + 1))))
set_option maxRecDepth 4000 in
theorem t_X10_compare_90 {X : Nat → List sd_V → List sd_E → sd_A → Prop} {d : Nat} (hd : 6 ≤ d) (v1 : Int) (v2 : Int) (s0 : Int) (M : sd_M) (Rr : Int × sd_M) (h : f_X10_compare_90 v1 v2 s0 M = some Rr) : sd_B X d sd_q_X10_compare 90 [(0, .inr (.inr (some (331)))), (1, .inl (v1)), (2, .inl (v2))] [.inl (s0)] M (some (.inl Rr.1), sd_rp Rr.2, 0, 0) := by
  unfold f_X10_compare_90 at h
  refine sd_b_go 2 (pc2 := 92) (lv2 := [(3, .inl (s0)), (0, .inr (.inr (some (331)))), (1, .inl (v1)), (2, .inl (v2))]) (st2 := [.inl (s0)]) rfl ?_
  by_cases c1 : s0 = 0
  · rw [if_pos c1] at h
    refine sd_b_zt (c := .eq) (tgt := 105) rfl (decide_eq_true c1) (by decide) ?_
    refine sd_b_wk [(0, .inr (.inr (some (331)))), (1, .inl (v1)), (2, .inl (v2)), (3, .inl (s0))] (List.forall_mem_cons.mpr ⟨rfl, (List.forall_mem_cons.mpr ⟨rfl, (List.forall_mem_cons.mpr ⟨rfl, (List.forall_mem_cons.mpr ⟨rfl, (fun _ h0 => absurd h0 List.not_mem_nil)⟩)⟩)⟩)⟩) ?_
    exact t_X10_compare_105 hd v1 v2 s0 M _ h
  · rw [if_neg c1] at h
    refine sd_b_zf (c := .eq) rfl (decide_eq_false c1) (by decide) ?_
    refine sd_b_go 2 (pc2 := 97) (lv2 := [(3, .inl (s0)), (0, .inr (.inr (some (331)))), (1, .inl (v1)), (2, .inl (v2))]) (st2 := [.inr (.inr (some (331))), .inr (.inr (some (331)))]) rfl ?_
    refine sd_b_gi (k := 8) sd_o_331 rfl rfl rfl ?_
    refine sd_b_go 2 (pc2 := 102) (lv2 := [(3, .inl (s0)), (0, .inr (.inr (some (331)))), (1, .inl (v1)), (2, .inl (v2))]) (st2 := [.inl (sd_w ((M 331 8) + 1)), .inr (.inr (some (331)))]) rfl ?_
    refine sd_b_pi (k := 8) sd_o_331 rfl rfl rfl rfl rfl ?_
    refine sd_b_wk [(0, .inr (.inr (some (331)))), (1, .inl (v1)), (2, .inl (v2)), (3, .inl (s0))] (List.forall_mem_cons.mpr ⟨rfl, (List.forall_mem_cons.mpr ⟨rfl, (List.forall_mem_cons.mpr ⟨rfl, (List.forall_mem_cons.mpr ⟨rfl, (fun _ h0 => absurd h0 List.not_mem_nil)⟩)⟩)⟩)⟩) ?_
    exact t_X10_compare_105 hd v1 v2 s0 (sd_s M 331 8 (sd_w ((M 331 8) + 1))) _ h
def f_X10_compare_89 (v1 : Int) (v2 : Int) (M : sd_M) : Option (Int × sd_M) := f_X10_compare_90 v1 v2 0 M
set_option maxRecDepth 4000 in
theorem t_X10_compare_89 {X : Nat → List sd_V → List sd_E → sd_A → Prop} {d : Nat} (hd : 6 ≤ d) (v1 : Int) (v2 : Int) (M : sd_M) (Rr : Int × sd_M) (h : f_X10_compare_89 v1 v2 M = some Rr) : sd_B X d sd_q_X10_compare 89 [(0, .inr (.inr (some (331)))), (1, .inl (v1)), (2, .inl (v2))] [] M (some (.inl Rr.1), sd_rp Rr.2, 0, 0) := by
  unfold f_X10_compare_89 at h
  refine sd_b_go 1 (pc2 := 90) (lv2 := [(0, .inr (.inr (some (331)))), (1, .inl (v1)), (2, .inl (v2))]) (st2 := [.inl (0)]) rfl ?_
  refine sd_b_wk [(0, .inr (.inr (some (331)))), (1, .inl (v1)), (2, .inl (v2))] (List.forall_mem_cons.mpr ⟨rfl, (List.forall_mem_cons.mpr ⟨rfl, (List.forall_mem_cons.mpr ⟨rfl, (fun _ h0 => absurd h0 List.not_mem_nil)⟩)⟩)⟩) ?_
  exact t_X10_compare_90 hd v1 v2 0 M _ h
def f_X10_compare_44 (v1 : Int) (v2 : Int) (M : sd_M) : Option (Int × sd_M) := if v1 = 61 then (f_X10_compare_89 v1 v2 (sd_s M 331 8 (sd_w ((M 331 8) + 1)))) else (if (sd_s M 331 8 (sd_w ((M 331 8) + 1)) 331 1) ≤ (sd_s M 331 8 (sd_w ((M 331 8) + 1)) 331 8) then (f_X10_compare_89 v1 v2 (sd_s M 331 8 (sd_w ((M 331 8) + 1)))) else (if 0 ≤ (sd_s M 331 8 (sd_w ((M 331 8) + 1)) 331 8) ∧ (sd_s M 331 8 (sd_w ((M 331 8) + 1)) 331 8) < 400 then (if ((sd_s M 331 8 (sd_w ((M 331 8) + 1))) 332 (sd_s M 331 8 (sd_w ((M 331 8) + 1)) 331 8).toNat) = 61 then (f_X10_compare_90 v1 v2 1 (sd_s M 331 8 (sd_w ((M 331 8) + 1)))) else (f_X10_compare_89 v1 v2 (sd_s M 331 8 (sd_w ((M 331 8) + 1))))) else none))
set_option maxRecDepth 4000 in
theorem t_X10_compare_44 {X : Nat → List sd_V → List sd_E → sd_A → Prop} {d : Nat} (hd : 6 ≤ d) (v1 : Int) (v2 : Int) (M : sd_M) (Rr : Int × sd_M) (h : f_X10_compare_44 v1 v2 M = some Rr) : sd_B X d sd_q_X10_compare 44 [(0, .inr (.inr (some (331)))), (1, .inl (v1)), (2, .inl (v2))] [] M (some (.inl Rr.1), sd_rp Rr.2, 0, 0) := by
  unfold f_X10_compare_44 at h
  refine sd_b_go 2 (pc2 := 46) (lv2 := [(0, .inr (.inr (some (331)))), (1, .inl (v1)), (2, .inl (v2))]) (st2 := [.inr (.inr (some (331))), .inr (.inr (some (331)))]) rfl ?_
  refine sd_b_gi (k := 8) sd_o_331 rfl rfl rfl ?_
  refine sd_b_go 2 (pc2 := 51) (lv2 := [(0, .inr (.inr (some (331)))), (1, .inl (v1)), (2, .inl (v2))]) (st2 := [.inl (sd_w ((M 331 8) + 1)), .inr (.inr (some (331)))]) rfl ?_
  refine sd_b_pi (k := 8) sd_o_331 rfl rfl rfl rfl rfl ?_
  refine sd_b_go 2 (pc2 := 57) (lv2 := [(0, .inr (.inr (some (331)))), (1, .inl (v1)), (2, .inl (v2))]) (st2 := [.inl (61), .inl (v1)]) rfl ?_
  by_cases c1 : v1 = 61
  · rw [if_pos c1] at h
    refine sd_b_ct (c := .eq) (tgt := 89) rfl (decide_eq_true c1) (by decide) ?_
    refine sd_b_wk [(0, .inr (.inr (some (331)))), (1, .inl (v1)), (2, .inl (v2))] (List.forall_mem_cons.mpr ⟨rfl, (List.forall_mem_cons.mpr ⟨rfl, (List.forall_mem_cons.mpr ⟨rfl, (fun _ h0 => absurd h0 List.not_mem_nil)⟩)⟩)⟩) ?_
    exact t_X10_compare_89 hd v1 v2 (sd_s M 331 8 (sd_w ((M 331 8) + 1))) _ h
  · rw [if_neg c1] at h
    refine sd_b_cf (c := .eq) rfl (decide_eq_false c1) (by decide) ?_
    refine sd_b_go 1 (pc2 := 61) (lv2 := [(0, .inr (.inr (some (331)))), (1, .inl (v1)), (2, .inl (v2))]) (st2 := [.inr (.inr (some (331)))]) rfl ?_
    refine sd_b_gi (k := 8) sd_o_331 rfl rfl rfl ?_
    refine sd_b_go 1 (pc2 := 65) (lv2 := [(0, .inr (.inr (some (331)))), (1, .inl (v1)), (2, .inl (v2))]) (st2 := [.inr (.inr (some (331))), .inl (sd_s M 331 8 (sd_w ((M 331 8) + 1)) 331 8)]) rfl ?_
    refine sd_b_gi (k := 1) sd_o_331 rfl rfl rfl ?_
    by_cases c2 : (sd_s M 331 8 (sd_w ((M 331 8) + 1)) 331 1) ≤ (sd_s M 331 8 (sd_w ((M 331 8) + 1)) 331 8)
    · rw [if_pos c2] at h
      refine sd_b_ct (c := .ge) (tgt := 89) rfl (decide_eq_true c2) (by decide) ?_
      refine sd_b_wk [(0, .inr (.inr (some (331)))), (1, .inl (v1)), (2, .inl (v2))] (List.forall_mem_cons.mpr ⟨rfl, (List.forall_mem_cons.mpr ⟨rfl, (List.forall_mem_cons.mpr ⟨rfl, (fun _ h0 => absurd h0 List.not_mem_nil)⟩)⟩)⟩) ?_
      exact t_X10_compare_89 hd v1 v2 (sd_s M 331 8 (sd_w ((M 331 8) + 1))) _ h
    · rw [if_neg c2] at h
      refine sd_b_cf (c := .ge) rfl (decide_eq_false c2) (by decide) ?_
      refine sd_b_go 1 (pc2 := 72) (lv2 := [(0, .inr (.inr (some (331)))), (1, .inl (v1)), (2, .inl (v2))]) (st2 := [.inr (.inr (some (331)))]) rfl ?_
      refine sd_b_gr (k := 0) sd_o_331 rfl rfl rfl ?_
      refine sd_b_go 1 (pc2 := 76) (lv2 := [(0, .inr (.inr (some (331)))), (1, .inl (v1)), (2, .inl (v2))]) (st2 := [.inr (.inr (some (331))), .inr (.inr (some (332)))]) rfl ?_
      refine sd_b_gi (k := 8) sd_o_331 rfl rfl rfl ?_
      obtain ⟨g3, h⟩ := sd_if h
      refine sd_b_ab (sd_oa sd_o_331 (by decide) (off := 1) (List.mem_of_getElem? (i := 0) rfl)) (by decide) g3 rfl ?_
      refine sd_b_go 1 (pc2 := 82) (lv2 := [(0, .inr (.inr (some (331)))), (1, .inl (v1)), (2, .inl (v2))]) (st2 := [.inl (61), .inl ((sd_s M 331 8 (sd_w ((M 331 8) + 1))) 332 (sd_s M 331 8 (sd_w ((M 331 8) + 1)) 331 8).toNat)]) rfl ?_
      by_cases c4 : ((sd_s M 331 8 (sd_w ((M 331 8) + 1))) 332 (sd_s M 331 8 (sd_w ((M 331 8) + 1)) 331 8).toNat) = 61
      · rw [if_pos c4] at h
        refine sd_b_cf (c := .ne) rfl (decide_eq_false (not_not_intro c4)) (by decide) ?_
        refine sd_b_go 2 (pc2 := 90) (lv2 := [(0, .inr (.inr (some (331)))), (1, .inl (v1)), (2, .inl (v2))]) (st2 := [.inl (1)]) rfl ?_
        refine sd_b_wk [(0, .inr (.inr (some (331)))), (1, .inl (v1)), (2, .inl (v2))] (List.forall_mem_cons.mpr ⟨rfl, (List.forall_mem_cons.mpr ⟨rfl, (List.forall_mem_cons.mpr ⟨rfl, (fun _ h0 => absurd h0 List.not_mem_nil)⟩)⟩)⟩) ?_
        exact t_X10_compare_90 hd v1 v2 1 (sd_s M 331 8 (sd_w ((M 331 8) + 1))) _ h
      · rw [if_neg c4] at h
        refine sd_b_ct (c := .ne) (tgt := 89) rfl (decide_eq_true c4) (by decide) ?_
        refine sd_b_wk [(0, .inr (.inr (some (331)))), (1, .inl (v1)), (2, .inl (v2))] (List.forall_mem_cons.mpr ⟨rfl, (List.forall_mem_cons.mpr ⟨rfl, (List.forall_mem_cons.mpr ⟨rfl, (fun _ h0 => absurd h0 List.not_mem_nil)⟩)⟩)⟩) ?_
        exact t_X10_compare_89 hd v1 v2 (sd_s M 331 8 (sd_w ((M 331 8) + 1))) _ h
def f_X10_compare (M : sd_M) : Option (Int × sd_M) := (f_X10_sum M).bind fun r1 => if r1.1 = 0 then (some (0, r1.2)) else ((f_X10_see r1.2).bind fun r3 => if r3.1 = 60 then (f_X10_compare_44 r3.1 (r3.2 331 8) r3.2) else (if r3.1 = 61 then (f_X10_compare_44 r3.1 (r3.2 331 8) r3.2) else (if r3.1 = 62 then (f_X10_compare_44 r3.1 (r3.2 331 8) r3.2) else ((f_X10_fails 0 (r3.2 331 8) r3.2).bind fun r7 => if r7.1 = 0 ∨ r7.1 = 1 then some (r7.1, r7.2) else none))))
set_option maxRecDepth 4000 in
theorem t_X10_compare {X : Nat → List sd_V → List sd_E → sd_A → Prop} {d : Nat} (hd : 6 ≤ d) (M : sd_M) (Rr : Int × sd_M) (h : f_X10_compare M = some Rr) : sd_B X d sd_q_X10_compare 0 [(0, .inr (.inr (some (331))))] [] M (some (.inl Rr.1), sd_rp Rr.2, 0, 0) := by
  unfold f_X10_compare at h
  refine sd_b_go 1 (pc2 := 1) (lv2 := [(0, .inr (.inr (some (331))))]) (st2 := [.inr (.inr (some (331)))]) rfl ?_
  obtain ⟨r1, e1, h⟩ := sd_bnd h
  refine sd_b_call [.inr (.inr (some (331)))] [] rfl rfl sd_i_X10_sum rfl rfl (Nat.le_of_ble_eq_true rfl) (sd_rc_v sd_o_331) (m_X10_sum (by omega) e1) ?_
  by_cases c2 : r1.1 = 0
  · rw [if_pos c2] at h
    refine sd_b_zf (c := .ne) rfl (decide_eq_false (not_not_intro c2)) (by decide) ?_
    refine sd_b_go 1 (pc2 := 8) (lv2 := [(0, .inr (.inr (some (331))))]) (st2 := [.inl (0)]) rfl ?_
    cases h
    exact sd_b_rt rfl rfl rfl
  · rw [if_neg c2] at h
    refine sd_b_zt (c := .ne) (tgt := 9) rfl (decide_eq_true c2) (by decide) ?_
    refine sd_b_go 1 (pc2 := 10) (lv2 := [(0, .inr (.inr (some (331))))]) (st2 := [.inr (.inr (some (331)))]) rfl ?_
    obtain ⟨r3, e3, h⟩ := sd_bnd h
    refine sd_b_call [.inr (.inr (some (331)))] [] rfl rfl sd_i_X10_see rfl rfl (Nat.le_of_ble_eq_true rfl) (sd_rc_v sd_o_331) (m_X10_see (by omega) e3) ?_
    refine sd_b_go 2 (pc2 := 15) (lv2 := [(1, .inl (r3.1)), (0, .inr (.inr (some (331))))]) (st2 := [.inr (.inr (some (331)))]) rfl ?_
    refine sd_b_gi (k := 8) sd_o_331 rfl rfl rfl ?_
    refine sd_b_go 3 (pc2 := 22) (lv2 := [(2, .inl (r3.2 331 8)), (1, .inl (r3.1)), (0, .inr (.inr (some (331))))]) (st2 := [.inl (60), .inl (r3.1)]) rfl ?_
    by_cases c4 : r3.1 = 60
    · rw [if_pos c4] at h
      refine sd_b_ct (c := .eq) (tgt := 44) rfl (decide_eq_true c4) (by decide) ?_
      refine sd_b_wk [(0, .inr (.inr (some (331)))), (1, .inl (r3.1)), (2, .inl (r3.2 331 8))] (List.forall_mem_cons.mpr ⟨rfl, (List.forall_mem_cons.mpr ⟨rfl, (List.forall_mem_cons.mpr ⟨rfl, (fun _ h0 => absurd h0 List.not_mem_nil)⟩)⟩)⟩) ?_
      exact t_X10_compare_44 hd r3.1 (r3.2 331 8) r3.2 _ h
    · rw [if_neg c4] at h
      refine sd_b_cf (c := .eq) rfl (decide_eq_false c4) (by decide) ?_
      refine sd_b_go 2 (pc2 := 28) (lv2 := [(2, .inl (r3.2 331 8)), (1, .inl (r3.1)), (0, .inr (.inr (some (331))))]) (st2 := [.inl (61), .inl (r3.1)]) rfl ?_
      by_cases c5 : r3.1 = 61
      · rw [if_pos c5] at h
        refine sd_b_ct (c := .eq) (tgt := 44) rfl (decide_eq_true c5) (by decide) ?_
        refine sd_b_wk [(0, .inr (.inr (some (331)))), (1, .inl (r3.1)), (2, .inl (r3.2 331 8))] (List.forall_mem_cons.mpr ⟨rfl, (List.forall_mem_cons.mpr ⟨rfl, (List.forall_mem_cons.mpr ⟨rfl, (fun _ h0 => absurd h0 List.not_mem_nil)⟩)⟩)⟩) ?_
        exact t_X10_compare_44 hd r3.1 (r3.2 331 8) r3.2 _ h
      · rw [if_neg c5] at h
        refine sd_b_cf (c := .eq) rfl (decide_eq_false c5) (by decide) ?_
        refine sd_b_go 2 (pc2 := 34) (lv2 := [(2, .inl (r3.2 331 8)), (1, .inl (r3.1)), (0, .inr (.inr (some (331))))]) (st2 := [.inl (62), .inl (r3.1)]) rfl ?_
        by_cases c6 : r3.1 = 62
        · rw [if_pos c6] at h
          refine sd_b_ct (c := .eq) (tgt := 44) rfl (decide_eq_true c6) (by decide) ?_
          refine sd_b_wk [(0, .inr (.inr (some (331)))), (1, .inl (r3.1)), (2, .inl (r3.2 331 8))] (List.forall_mem_cons.mpr ⟨rfl, (List.forall_mem_cons.mpr ⟨rfl, (List.forall_mem_cons.mpr ⟨rfl, (fun _ h0 => absurd h0 List.not_mem_nil)⟩)⟩)⟩) ?_
          exact t_X10_compare_44 hd r3.1 (r3.2 331 8) r3.2 _ h
        · rw [if_neg c6] at h
          refine sd_b_cf (c := .eq) rfl (decide_eq_false c6) (by decide) ?_
          refine sd_b_go 3 (pc2 := 40) (lv2 := [(2, .inl (r3.2 331 8)), (1, .inl (r3.1)), (0, .inr (.inr (some (331))))]) (st2 := [.inl (r3.2 331 8), .inl (0), .inr (.inr (some (331)))]) rfl ?_
          obtain ⟨r7, e7, h⟩ := sd_bnd h
          refine sd_b_call [.inr (.inr (some (331))), .inl (0), .inl (r3.2 331 8)] [] rfl rfl sd_i_X10_fails rfl rfl (Nat.le_of_ble_eq_true rfl) (sd_rc_v sd_o_331) (m_X10_fails (by omega) e7) ?_
          obtain ⟨g8, h⟩ := sd_if h
          cases h
          exact sd_b_rz g8 rfl rfl
theorem m_X10_compare {X : Nat → List sd_V → List sd_E → sd_A → Prop} {d : Nat} (hd : 7 ≤ d) {M : sd_M} {Rr : Int × sd_M} (h : f_X10_compare M = some Rr) : sd_Cal X d 152 [.inr (.inr (some (331)))] (sd_rp M) (some (.inl Rr.1), sd_rp Rr.2, 0, 0) := by
  obtain ⟨d, rfl⟩ : ∃ d2, d = d2 + 1 := ⟨d - 1, by omega⟩
  exact sd_cal_of sd_i_X10_compare (Nat.le_of_ble_eq_true rfl) (t_X10_compare (by omega) M Rr h)
-- X10_fact
def sd_q_X10_fact : sd_MI := (yX10_fact, cX10_fact, 3, (some .boolean), 10, 0, sd_t_X10_fact)
set_option maxRecDepth 4000 in
theorem sd_i_X10_fact : sd_mL[153]? = some sd_q_X10_fact := rfl
def f_X10_fact_2 (k75 : sd_M → Option (Int × sd_M)) : Nat → Int → sd_M → Option (Int × sd_M)
  | 0, _, _ => none
  | n + 1, v1, M => if v1 = 0 then (k75 M) else ((f_X10_see M).bind fun r2 => (f_X10_isWord 7237492 r2.2).bind fun r3 => if r3.1 = 0 then (if r2.1 = 91 then ((f_X10_opens 91 r3.2).bind fun r6 => if r6.1 = 0 then (some (0, r6.2)) else (f_X10_fact_2 k75 n 1 (sd_s r6.2 331 8 (sd_w ((r6.2 331 8) + 1))))) else (f_X10_fact_2 k75 n 0 r3.2)) else ((f_X10_opens 11 r3.2).bind fun r8 => if r8.1 = 0 then (some (0, r8.2)) else ((f_X10_passWord r8.2).bind fun r10 => f_X10_fact_2 k75 n 1 r10.2)))
set_option maxRecDepth 4000 in
theorem t_X10_fact_2 {X : Nat → List sd_V → List sd_E → sd_A → Prop} {d : Nat} (hd : 7 ≤ d) (k75 : sd_M → Option (Int × sd_M)) (hk75 : ∀ (M : sd_M) (Rr : Int × sd_M), k75 M = some Rr → sd_B X d sd_q_X10_fact 75 [(0, .inr (.inr (some (331))))] [] M (some (.inl Rr.1), sd_rp Rr.2, 0, 0)) : ∀ (n : Nat) (v1 : Int) (M : sd_M) (Rr : Int × sd_M), f_X10_fact_2 k75 n v1 M = some Rr → sd_B X d sd_q_X10_fact 2 [(0, .inr (.inr (some (331)))), (1, .inl (v1))] [] M (some (.inl Rr.1), sd_rp Rr.2, 0, 0) := by
  intro n
  induction n with
  | zero => intro v1 M Rr h; cases h
  | succ n ih =>
    intro v1 M Rr h
    rw [f_X10_fact_2] at h
    refine sd_b_go 1 (pc2 := 3) (lv2 := [(0, .inr (.inr (some (331)))), (1, .inl (v1))]) (st2 := [.inl (v1)]) rfl ?_
    by_cases c1 : v1 = 0
    · rw [if_pos c1] at h
      refine sd_b_zt (c := .eq) (tgt := 75) rfl (decide_eq_true c1) (by decide) ?_
      refine sd_b_wk [(0, .inr (.inr (some (331))))] (List.forall_mem_cons.mpr ⟨rfl, (fun _ h0 => absurd h0 List.not_mem_nil)⟩) ?_
      exact hk75 M _ h
    · rw [if_neg c1] at h
      refine sd_b_zf (c := .eq) rfl (decide_eq_false c1) (by decide) ?_
      refine sd_b_go 3 (pc2 := 9) (lv2 := [(1, .inl (0)), (0, .inr (.inr (some (331))))]) (st2 := [.inr (.inr (some (331)))]) rfl ?_
      obtain ⟨r2, e2, h⟩ := sd_bnd h
      refine sd_b_call [.inr (.inr (some (331)))] [] rfl rfl sd_i_X10_see rfl rfl (Nat.le_of_ble_eq_true rfl) (sd_rc_v sd_o_331) (m_X10_see (by omega) e2) ?_
      refine sd_b_go 3 (pc2 := 17) (lv2 := [(2, .inl (r2.1)), (1, .inl (0)), (0, .inr (.inr (some (331))))]) (st2 := [.inr (.inl (7237492)), .inr (.inr (some (331)))]) rfl ?_
      obtain ⟨r3, e3, h⟩ := sd_bnd h
      refine sd_b_call [.inr (.inr (some (331))), .inr (.inl (7237492))] [] rfl rfl sd_i_X10_isWord rfl rfl (Nat.le_of_ble_eq_true rfl) (sd_rc_v sd_o_331) (m_X10_isWord (by omega) e3) ?_
      by_cases c4 : r3.1 = 0
      · rw [if_pos c4] at h
        refine sd_b_zt (c := .eq) (tgt := 43) rfl (decide_eq_true c4) (by decide) ?_
        refine sd_b_go 2 (pc2 := 46) (lv2 := [(2, .inl (r2.1)), (1, .inl (0)), (0, .inr (.inr (some (331))))]) (st2 := [.inl (91), .inl (r2.1)]) rfl ?_
        by_cases c5 : r2.1 = 91
        · rw [if_pos c5] at h
          refine sd_b_cf (c := .ne) rfl (decide_eq_false (not_not_intro c5)) (by decide) ?_
          refine sd_b_go 2 (pc2 := 52) (lv2 := [(2, .inl (r2.1)), (1, .inl (0)), (0, .inr (.inr (some (331))))]) (st2 := [.inl (91), .inr (.inr (some (331)))]) rfl ?_
          obtain ⟨r6, e6, h⟩ := sd_bnd h
          refine sd_b_call [.inr (.inr (some (331))), .inl (91)] [] rfl rfl sd_i_X10_opens rfl rfl (Nat.le_of_ble_eq_true rfl) (sd_rc_v sd_o_331) (m_X10_opens (by omega) e6) ?_
          by_cases c7 : r6.1 = 0
          · rw [if_pos c7] at h
            refine sd_b_zf (c := .ne) rfl (decide_eq_false (not_not_intro c7)) (by decide) ?_
            refine sd_b_go 1 (pc2 := 59) (lv2 := [(2, .inl (r2.1)), (1, .inl (0)), (0, .inr (.inr (some (331))))]) (st2 := [.inl (0)]) rfl ?_
            cases h
            exact sd_b_rt rfl rfl rfl
          · rw [if_neg c7] at h
            refine sd_b_zt (c := .ne) (tgt := 60) rfl (decide_eq_true c7) (by decide) ?_
            refine sd_b_go 2 (pc2 := 62) (lv2 := [(2, .inl (r2.1)), (1, .inl (0)), (0, .inr (.inr (some (331))))]) (st2 := [.inr (.inr (some (331))), .inr (.inr (some (331)))]) rfl ?_
            refine sd_b_gi (k := 8) sd_o_331 rfl rfl rfl ?_
            refine sd_b_go 2 (pc2 := 67) (lv2 := [(2, .inl (r2.1)), (1, .inl (0)), (0, .inr (.inr (some (331))))]) (st2 := [.inl (sd_w ((r6.2 331 8) + 1)), .inr (.inr (some (331)))]) rfl ?_
            refine sd_b_pi (k := 8) sd_o_331 rfl rfl rfl rfl rfl ?_
            refine sd_b_go 3 (pc2 := 2) (lv2 := [(1, .inl (1)), (2, .inl (r2.1)), (0, .inr (.inr (some (331))))]) (st2 := []) rfl ?_
            refine sd_b_wk [(0, .inr (.inr (some (331)))), (1, .inl (1))] (List.forall_mem_cons.mpr ⟨rfl, (List.forall_mem_cons.mpr ⟨rfl, (fun _ h0 => absurd h0 List.not_mem_nil)⟩)⟩) ?_
            exact ih 1 (sd_s r6.2 331 8 (sd_w ((r6.2 331 8) + 1))) _ h
        · rw [if_neg c5] at h
          refine sd_b_ct (c := .ne) (tgt := 72) rfl (decide_eq_true c5) (by decide) ?_
          refine sd_b_go 1 (pc2 := 2) (lv2 := [(2, .inl (r2.1)), (1, .inl (0)), (0, .inr (.inr (some (331))))]) (st2 := []) rfl ?_
          refine sd_b_wk [(0, .inr (.inr (some (331)))), (1, .inl (0))] (List.forall_mem_cons.mpr ⟨rfl, (List.forall_mem_cons.mpr ⟨rfl, (fun _ h0 => absurd h0 List.not_mem_nil)⟩)⟩) ?_
          exact ih 0 r3.2 _ h
      · rw [if_neg c4] at h
        refine sd_b_zf (c := .eq) rfl (decide_eq_false c4) (by decide) ?_
        refine sd_b_go 2 (pc2 := 26) (lv2 := [(2, .inl (r2.1)), (1, .inl (0)), (0, .inr (.inr (some (331))))]) (st2 := [.inl (11), .inr (.inr (some (331)))]) rfl ?_
        obtain ⟨r8, e8, h⟩ := sd_bnd h
        refine sd_b_call [.inr (.inr (some (331))), .inl (11)] [] rfl rfl sd_i_X10_opens rfl rfl (Nat.le_of_ble_eq_true rfl) (sd_rc_v sd_o_331) (m_X10_opens (by omega) e8) ?_
        by_cases c9 : r8.1 = 0
        · rw [if_pos c9] at h
          refine sd_b_zf (c := .ne) rfl (decide_eq_false (not_not_intro c9)) (by decide) ?_
          refine sd_b_go 1 (pc2 := 33) (lv2 := [(2, .inl (r2.1)), (1, .inl (0)), (0, .inr (.inr (some (331))))]) (st2 := [.inl (0)]) rfl ?_
          cases h
          exact sd_b_rt rfl rfl rfl
        · rw [if_neg c9] at h
          refine sd_b_zt (c := .ne) (tgt := 34) rfl (decide_eq_true c9) (by decide) ?_
          refine sd_b_go 1 (pc2 := 35) (lv2 := [(2, .inl (r2.1)), (1, .inl (0)), (0, .inr (.inr (some (331))))]) (st2 := [.inr (.inr (some (331)))]) rfl ?_
          obtain ⟨r10, e10, h⟩ := sd_bnd h
          refine sd_b_call [.inr (.inr (some (331)))] [] rfl rfl sd_i_X10_passWord rfl rfl (Nat.le_of_ble_eq_true rfl) (sd_rc_v sd_o_331) (m_X10_passWord (by omega) e10) ?_
          refine sd_b_go 4 (pc2 := 2) (lv2 := [(1, .inl (1)), (2, .inl (r2.1)), (0, .inr (.inr (some (331))))]) (st2 := []) rfl ?_
          refine sd_b_wk [(0, .inr (.inr (some (331)))), (1, .inl (1))] (List.forall_mem_cons.mpr ⟨rfl, (List.forall_mem_cons.mpr ⟨rfl, (fun _ h0 => absurd h0 List.not_mem_nil)⟩)⟩) ?_
          exact ih 1 r10.2 _ h
def f_X10_fact_75 (M : sd_M) : Option (Int × sd_M) := (f_X10_compare M).bind fun r1 => if r1.1 = 0 ∨ r1.1 = 1 then some (r1.1, r1.2) else none
set_option maxRecDepth 4000 in
theorem t_X10_fact_75 {X : Nat → List sd_V → List sd_E → sd_A → Prop} {d : Nat} (hd : 7 ≤ d) (M : sd_M) (Rr : Int × sd_M) (h : f_X10_fact_75 M = some Rr) : sd_B X d sd_q_X10_fact 75 [(0, .inr (.inr (some (331))))] [] M (some (.inl Rr.1), sd_rp Rr.2, 0, 0) := by
  unfold f_X10_fact_75 at h
  refine sd_b_go 1 (pc2 := 76) (lv2 := [(0, .inr (.inr (some (331))))]) (st2 := [.inr (.inr (some (331)))]) rfl ?_
  obtain ⟨r1, e1, h⟩ := sd_bnd h
  refine sd_b_call [.inr (.inr (some (331)))] [] rfl rfl sd_i_X10_compare rfl rfl (Nat.le_of_ble_eq_true rfl) (sd_rc_v sd_o_331) (m_X10_compare (by omega) e1) ?_
  obtain ⟨g2, h⟩ := sd_if h
  cases h
  exact sd_b_rz g2 rfl rfl
def f_X10_fact (M : sd_M) : Option (Int × sd_M) := f_X10_fact_2 (f_X10_fact_75) 4000 1 M
set_option maxRecDepth 4000 in
theorem t_X10_fact {X : Nat → List sd_V → List sd_E → sd_A → Prop} {d : Nat} (hd : 7 ≤ d) (M : sd_M) (Rr : Int × sd_M) (h : f_X10_fact M = some Rr) : sd_B X d sd_q_X10_fact 0 [(0, .inr (.inr (some (331))))] [] M (some (.inl Rr.1), sd_rp Rr.2, 0, 0) := by
  unfold f_X10_fact at h
  refine sd_b_go 2 (pc2 := 2) (lv2 := [(1, .inl (1)), (0, .inr (.inr (some (331))))]) (st2 := []) rfl ?_
  refine sd_b_wk [(0, .inr (.inr (some (331)))), (1, .inl (1))] (List.forall_mem_cons.mpr ⟨rfl, (List.forall_mem_cons.mpr ⟨rfl, (fun _ h0 => absurd h0 List.not_mem_nil)⟩)⟩) ?_
  exact t_X10_fact_2 hd (f_X10_fact_75) (t_X10_fact_75 hd) 4000 1 M _ h
theorem m_X10_fact {X : Nat → List sd_V → List sd_E → sd_A → Prop} {d : Nat} (hd : 8 ≤ d) {M : sd_M} {Rr : Int × sd_M} (h : f_X10_fact M = some Rr) : sd_Cal X d 153 [.inr (.inr (some (331)))] (sd_rp M) (some (.inl Rr.1), sd_rp Rr.2, 0, 0) := by
  obtain ⟨d, rfl⟩ : ∃ d2, d = d2 + 1 := ⟨d - 1, by omega⟩
  exact sd_cal_of sd_i_X10_fact (Nat.le_of_ble_eq_true rfl) (t_X10_fact (by omega) M Rr h)
-- X10_isInside
def sd_q_X10_isInside : sd_MI := (yX10_isInside, cX10_isInside, 2, (some .boolean), 10, 0, sd_t_X10_isInside)
set_option maxRecDepth 4000 in
theorem sd_i_X10_isInside : sd_mL[154]? = some sd_q_X10_isInside := rfl
def f_X10_isInside_2 : Nat → Int → sd_M → Option (Int × sd_M)
  | 0, _, _ => none
  | n + 1, v1, M => if (M 331 16) ≤ v1 then (some (0, M)) else (if 0 ≤ v1 ∧ v1 < 400 then (if (M 338 v1.toNat) = 91 then (some (1, M)) else (f_X10_isInside_2 n (sd_w (v1 + 1)) M)) else none)
set_option maxRecDepth 4000 in
theorem t_X10_isInside_2 {X : Nat → List sd_V → List sd_E → sd_A → Prop} {d : Nat} (hd : 0 ≤ d) : ∀ (n : Nat) (v1 : Int) (M : sd_M) (Rr : Int × sd_M), f_X10_isInside_2 n v1 M = some Rr → sd_B X d sd_q_X10_isInside 2 [(0, .inr (.inr (some (331)))), (1, .inl (v1))] [] M (some (.inl Rr.1), sd_rp Rr.2, 0, 0) := by
  intro n
  induction n with
  | zero => intro v1 M Rr h; cases h
  | succ n ih =>
    intro v1 M Rr h
    rw [f_X10_isInside_2] at h
    refine sd_b_go 2 (pc2 := 4) (lv2 := [(0, .inr (.inr (some (331)))), (1, .inl (v1))]) (st2 := [.inr (.inr (some (331))), .inl (v1)]) rfl ?_
    refine sd_b_gi (k := 16) sd_o_331 rfl rfl rfl ?_
    by_cases c1 : (M 331 16) ≤ v1
    · rw [if_pos c1] at h
      refine sd_b_ct (c := .ge) (tgt := 29) rfl (decide_eq_true c1) (by decide) ?_
      refine sd_b_go 1 (pc2 := 30) (lv2 := [(0, .inr (.inr (some (331)))), (1, .inl (v1))]) (st2 := [.inl (0)]) rfl ?_
      cases h
      exact sd_b_rt rfl rfl rfl
    · rw [if_neg c1] at h
      refine sd_b_cf (c := .ge) rfl (decide_eq_false c1) (by decide) ?_
      refine sd_b_go 1 (pc2 := 11) (lv2 := [(0, .inr (.inr (some (331)))), (1, .inl (v1))]) (st2 := [.inr (.inr (some (331)))]) rfl ?_
      refine sd_b_gr (k := 15) sd_o_331 rfl rfl rfl ?_
      refine sd_b_go 1 (pc2 := 15) (lv2 := [(0, .inr (.inr (some (331)))), (1, .inl (v1))]) (st2 := [.inl (v1), .inr (.inr (some (338)))]) rfl ?_
      obtain ⟨g2, h⟩ := sd_if h
      refine sd_b_ai (sd_oa sd_o_331 (by decide) (off := 7) (List.mem_of_getElem? (i := 6) rfl)) g2 rfl ?_
      refine sd_b_go 1 (pc2 := 18) (lv2 := [(0, .inr (.inr (some (331)))), (1, .inl (v1))]) (st2 := [.inl (91), .inl (M 338 v1.toNat)]) rfl ?_
      by_cases c3 : (M 338 v1.toNat) = 91
      · rw [if_pos c3] at h
        refine sd_b_cf (c := .ne) rfl (decide_eq_false (not_not_intro c3)) (by decide) ?_
        refine sd_b_go 1 (pc2 := 22) (lv2 := [(0, .inr (.inr (some (331)))), (1, .inl (v1))]) (st2 := [.inl (1)]) rfl ?_
        cases h
        exact sd_b_rt rfl rfl rfl
      · rw [if_neg c3] at h
        refine sd_b_ct (c := .ne) (tgt := 23) rfl (decide_eq_true c3) (by decide) ?_
        refine sd_b_go 2 (pc2 := 2) (lv2 := [(1, .inl (sd_w (v1 + 1))), (0, .inr (.inr (some (331))))]) (st2 := []) rfl ?_
        refine sd_b_wk [(0, .inr (.inr (some (331)))), (1, .inl (sd_w (v1 + 1)))] (List.forall_mem_cons.mpr ⟨rfl, (List.forall_mem_cons.mpr ⟨rfl, (fun _ h0 => absurd h0 List.not_mem_nil)⟩)⟩) ?_
        exact ih (sd_w (v1 + 1)) M _ h
def f_X10_isInside (M : sd_M) : Option (Int × sd_M) := f_X10_isInside_2 4000 0 M
set_option maxRecDepth 4000 in
theorem t_X10_isInside {X : Nat → List sd_V → List sd_E → sd_A → Prop} {d : Nat} (hd : 0 ≤ d) (M : sd_M) (Rr : Int × sd_M) (h : f_X10_isInside M = some Rr) : sd_B X d sd_q_X10_isInside 0 [(0, .inr (.inr (some (331))))] [] M (some (.inl Rr.1), sd_rp Rr.2, 0, 0) := by
  unfold f_X10_isInside at h
  refine sd_b_go 2 (pc2 := 2) (lv2 := [(1, .inl (0)), (0, .inr (.inr (some (331))))]) (st2 := []) rfl ?_
  refine sd_b_wk [(0, .inr (.inr (some (331)))), (1, .inl (0))] (List.forall_mem_cons.mpr ⟨rfl, (List.forall_mem_cons.mpr ⟨rfl, (fun _ h0 => absurd h0 List.not_mem_nil)⟩)⟩) ?_
  exact t_X10_isInside_2 hd 4000 0 M _ h
theorem m_X10_isInside {X : Nat → List sd_V → List sd_E → sd_A → Prop} {d : Nat} (hd : 1 ≤ d) {M : sd_M} {Rr : Int × sd_M} (h : f_X10_isInside M = some Rr) : sd_Cal X d 154 [.inr (.inr (some (331)))] (sd_rp M) (some (.inl Rr.1), sd_rp Rr.2, 0, 0) := by
  obtain ⟨d, rfl⟩ : ∃ d2, d = d2 + 1 := ⟨d - 1, by omega⟩
  exact sd_cal_of sd_i_X10_isInside (Nat.le_of_ble_eq_true rfl) (t_X10_isInside (by omega) M Rr h)
-- X10_closes
def sd_q_X10_closes : sd_MI := (yX10_closes, cX10_closes, 1, none, 10, 0, sd_t_X10_closes)
set_option maxRecDepth 4000 in
theorem sd_i_X10_closes : sd_mL[155]? = some sd_q_X10_closes := rfl
def f_X10_closes_5 : Nat → sd_M → Option (Int × sd_M)
  | 0, _ => none
  | n + 1, M => (f_X10_see M).bind fun r1 => if r1.1 = 93 then ((f_X10_isInside r1.2).bind fun r3 => if r3.1 = 0 then (some (0, r3.2)) else ((f_X10_layDown 1 r3.2).bind fun r5 => (f_X10_layDown 3 (sd_s (sd_s (sd_s r5.2 331 16 (sd_w ((r5.2 331 16) - 1))) 331 13 (sd_w ((sd_s r5.2 331 16 (sd_w ((r5.2 331 16) - 1)) 331 13) - 1))) 331 8 (sd_w ((sd_s (sd_s r5.2 331 16 (sd_w ((r5.2 331 16) - 1))) 331 13 (sd_w ((sd_s r5.2 331 16 (sd_w ((r5.2 331 16) - 1)) 331 13) - 1)) 331 8) + 1)))).bind fun r6 => f_X10_closes_5 n r6.2)) else (some (0, r1.2))
set_option maxRecDepth 4000 in
theorem t_X10_closes_5 {X : Nat → List sd_V → List sd_E → sd_A → Prop} {d : Nat} (hd : 2 ≤ d) : ∀ (n : Nat) (M : sd_M) (Rr : Int × sd_M), f_X10_closes_5 n M = some Rr → sd_B X d sd_q_X10_closes 5 [(0, .inr (.inr (some (331))))] [] M (none, sd_rp Rr.2, 0, 0) := by
  intro n
  induction n with
  | zero => intro M Rr h; cases h
  | succ n ih =>
    intro M Rr h
    rw [f_X10_closes_5] at h
    refine sd_b_go 1 (pc2 := 6) (lv2 := [(0, .inr (.inr (some (331))))]) (st2 := [.inr (.inr (some (331)))]) rfl ?_
    obtain ⟨r1, e1, h⟩ := sd_bnd h
    refine sd_b_call [.inr (.inr (some (331)))] [] rfl rfl sd_i_X10_see rfl rfl (Nat.le_of_ble_eq_true rfl) (sd_rc_v sd_o_331) (m_X10_see (by omega) e1) ?_
    refine sd_b_go 1 (pc2 := 11) (lv2 := [(0, .inr (.inr (some (331))))]) (st2 := [.inl (93), .inl (r1.1)]) rfl ?_
    by_cases c2 : r1.1 = 93
    · rw [if_pos c2] at h
      refine sd_b_cf (c := .ne) rfl (decide_eq_false (not_not_intro c2)) (by decide) ?_
      refine sd_b_go 1 (pc2 := 15) (lv2 := [(0, .inr (.inr (some (331))))]) (st2 := [.inr (.inr (some (331)))]) rfl ?_
      obtain ⟨r3, e3, h⟩ := sd_bnd h
      refine sd_b_call [.inr (.inr (some (331)))] [] rfl rfl sd_i_X10_isInside rfl rfl (Nat.le_of_ble_eq_true rfl) (sd_rc_v sd_o_331) (m_X10_isInside (by omega) e3) ?_
      by_cases c4 : r3.1 = 0
      · rw [if_pos c4] at h
        refine sd_b_zt (c := .eq) (tgt := 64) rfl (decide_eq_true c4) (by decide) ?_
        cases h
        exact sd_b_rt rfl rfl rfl
      · rw [if_neg c4] at h
        refine sd_b_zf (c := .eq) rfl (decide_eq_false c4) (by decide) ?_
        refine sd_b_go 2 (pc2 := 23) (lv2 := [(0, .inr (.inr (some (331))))]) (st2 := [.inl (1), .inr (.inr (some (331)))]) rfl ?_
        obtain ⟨r5, e5, h⟩ := sd_bnd h
        refine sd_b_call [.inr (.inr (some (331))), .inl (1)] [] rfl rfl sd_i_X10_layDown rfl rfl (Nat.le_of_ble_eq_true rfl) (sd_rc_v sd_o_331) (m_X10_layDown (by omega) e5) ?_
        refine sd_b_go 2 (pc2 := 28) (lv2 := [(0, .inr (.inr (some (331))))]) (st2 := [.inr (.inr (some (331))), .inr (.inr (some (331)))]) rfl ?_
        refine sd_b_gi (k := 16) sd_o_331 rfl rfl rfl ?_
        refine sd_b_go 2 (pc2 := 33) (lv2 := [(0, .inr (.inr (some (331))))]) (st2 := [.inl (sd_w ((r5.2 331 16) - 1)), .inr (.inr (some (331)))]) rfl ?_
        refine sd_b_pi (k := 16) sd_o_331 rfl rfl rfl rfl rfl ?_
        refine sd_b_go 2 (pc2 := 38) (lv2 := [(0, .inr (.inr (some (331))))]) (st2 := [.inr (.inr (some (331))), .inr (.inr (some (331)))]) rfl ?_
        refine sd_b_gi (k := 13) sd_o_331 rfl rfl rfl ?_
        refine sd_b_go 2 (pc2 := 43) (lv2 := [(0, .inr (.inr (some (331))))]) (st2 := [.inl (sd_w ((sd_s r5.2 331 16 (sd_w ((r5.2 331 16) - 1)) 331 13) - 1)), .inr (.inr (some (331)))]) rfl ?_
        refine sd_b_pi (k := 13) sd_o_331 rfl rfl rfl rfl rfl ?_
        refine sd_b_go 2 (pc2 := 48) (lv2 := [(0, .inr (.inr (some (331))))]) (st2 := [.inr (.inr (some (331))), .inr (.inr (some (331)))]) rfl ?_
        refine sd_b_gi (k := 8) sd_o_331 rfl rfl rfl ?_
        refine sd_b_go 2 (pc2 := 53) (lv2 := [(0, .inr (.inr (some (331))))]) (st2 := [.inl (sd_w ((sd_s (sd_s r5.2 331 16 (sd_w ((r5.2 331 16) - 1))) 331 13 (sd_w ((sd_s r5.2 331 16 (sd_w ((r5.2 331 16) - 1)) 331 13) - 1)) 331 8) + 1)), .inr (.inr (some (331)))]) rfl ?_
        refine sd_b_pi (k := 8) sd_o_331 rfl rfl rfl rfl rfl ?_
        refine sd_b_go 2 (pc2 := 58) (lv2 := [(0, .inr (.inr (some (331))))]) (st2 := [.inl (3), .inr (.inr (some (331)))]) rfl ?_
        obtain ⟨r6, e6, h⟩ := sd_bnd h
        refine sd_b_call [.inr (.inr (some (331))), .inl (3)] [] rfl rfl sd_i_X10_layDown rfl rfl (Nat.le_of_ble_eq_true rfl) (sd_rc_v sd_o_331) (m_X10_layDown (by omega) e6) ?_
        refine sd_b_go 1 (pc2 := 5) (lv2 := [(0, .inr (.inr (some (331))))]) (st2 := []) rfl ?_
        refine sd_b_wk [(0, .inr (.inr (some (331))))] (List.forall_mem_cons.mpr ⟨rfl, (fun _ h0 => absurd h0 List.not_mem_nil)⟩) ?_
        exact ih r6.2 _ h
    · rw [if_neg c2] at h
      refine sd_b_ct (c := .ne) (tgt := 64) rfl (decide_eq_true c2) (by decide) ?_
      cases h
      exact sd_b_rt rfl rfl rfl
def f_X10_closes (M : sd_M) : Option (Int × sd_M) := (f_X10_layDown 3 M).bind fun r1 => f_X10_closes_5 4000 r1.2
set_option maxRecDepth 4000 in
theorem t_X10_closes {X : Nat → List sd_V → List sd_E → sd_A → Prop} {d : Nat} (hd : 2 ≤ d) (M : sd_M) (Rr : Int × sd_M) (h : f_X10_closes M = some Rr) : sd_B X d sd_q_X10_closes 0 [(0, .inr (.inr (some (331))))] [] M (none, sd_rp Rr.2, 0, 0) := by
  unfold f_X10_closes at h
  refine sd_b_go 2 (pc2 := 2) (lv2 := [(0, .inr (.inr (some (331))))]) (st2 := [.inl (3), .inr (.inr (some (331)))]) rfl ?_
  obtain ⟨r1, e1, h⟩ := sd_bnd h
  refine sd_b_call [.inr (.inr (some (331))), .inl (3)] [] rfl rfl sd_i_X10_layDown rfl rfl (Nat.le_of_ble_eq_true rfl) (sd_rc_v sd_o_331) (m_X10_layDown (by omega) e1) ?_
  refine sd_b_wk [(0, .inr (.inr (some (331))))] (List.forall_mem_cons.mpr ⟨rfl, (fun _ h0 => absurd h0 List.not_mem_nil)⟩) ?_
  exact t_X10_closes_5 hd 4000 r1.2 _ h
theorem m_X10_closes {X : Nat → List sd_V → List sd_E → sd_A → Prop} {d : Nat} (hd : 3 ≤ d) {M : sd_M} {Rr : Int × sd_M} (h : f_X10_closes M = some Rr) : sd_Cal X d 155 [.inr (.inr (some (331)))] (sd_rp M) (none, sd_rp Rr.2, 0, 0) := by
  obtain ⟨d, rfl⟩ : ∃ d2, d = d2 + 1 := ⟨d - 1, by omega⟩
  exact sd_cal_of sd_i_X10_closes (Nat.le_of_ble_eq_true rfl) (t_X10_closes (by omega) M Rr h)
-- X10_tested
def sd_q_X10_tested : sd_MI := (yX10_tested, cX10_tested, 3, (some .boolean), 10, 0, sd_t_X10_tested)
set_option maxRecDepth 4000 in
theorem sd_i_X10_tested : sd_mL[156]? = some sd_q_X10_tested := rfl
def f_X10_tested_76 (k12 : Int → sd_M → Option (Int × sd_M)) (k112 : sd_M → Option (Int × sd_M)) (v1 : Int) (s0 : Int) (M : sd_M) : Option (Int × sd_M) := (f_X10_passWord M).bind fun r1 => (f_X10_strength s0 r1.2).bind fun r2 => (f_X10_layDown r2.1 r2.2).bind fun r3 => if 0 ≤ (r3.2 331 16) ∧ (r3.2 331 16) < 400 then (k12 v1 (sd_s (sd_s r3.2 338 (r3.2 331 16).toNat s0) 331 16 (sd_w ((sd_s r3.2 338 (r3.2 331 16).toNat s0 331 16) + 1)))) else none
set_option maxRecDepth 4000 in
theorem t_X10_tested_76 {X : Nat → List sd_V → List sd_E → sd_A → Prop} {d : Nat} (hd : 8 ≤ d) (k12 : Int → sd_M → Option (Int × sd_M)) (k112 : sd_M → Option (Int × sd_M)) (hk12 : ∀ (v1 : Int) (M : sd_M) (Rr : Int × sd_M), k12 v1 M = some Rr → sd_B X d sd_q_X10_tested 12 [(0, .inr (.inr (some (331)))), (1, .inl (v1))] [] M (some (.inl Rr.1), sd_rp Rr.2, 0, 0)) (hk112 : ∀ (M : sd_M) (Rr : Int × sd_M), k112 M = some Rr → sd_B X d sd_q_X10_tested 112 [(0, .inr (.inr (some (331))))] [] M (some (.inl Rr.1), sd_rp Rr.2, 0, 0)) (v1 : Int) (s0 : Int) (M : sd_M) (Rr : Int × sd_M) (h : f_X10_tested_76 k12 k112 v1 s0 M = some Rr) : sd_B X d sd_q_X10_tested 76 [(0, .inr (.inr (some (331)))), (1, .inl (v1))] [.inl (s0)] M (some (.inl Rr.1), sd_rp Rr.2, 0, 0) := by
  unfold f_X10_tested_76 at h
  refine sd_b_go 2 (pc2 := 78) (lv2 := [(2, .inl (s0)), (0, .inr (.inr (some (331)))), (1, .inl (v1))]) (st2 := [.inr (.inr (some (331)))]) rfl ?_
  obtain ⟨r1, e1, h⟩ := sd_bnd h
  refine sd_b_call [.inr (.inr (some (331)))] [] rfl rfl sd_i_X10_passWord rfl rfl (Nat.le_of_ble_eq_true rfl) (sd_rc_v sd_o_331) (m_X10_passWord (by omega) e1) ?_
  refine sd_b_go 2 (pc2 := 83) (lv2 := [(2, .inl (s0)), (0, .inr (.inr (some (331)))), (1, .inl (v1))]) (st2 := [.inl (s0), .inr (.inr (some (331)))]) rfl ?_
  obtain ⟨r2, e2, h⟩ := sd_bnd h
  refine sd_b_call [.inl (s0)] [.inr (.inr (some (331)))] rfl rfl sd_i_X10_strength rfl rfl (Nat.le_of_ble_eq_true rfl) rfl (m_X10_strength (by omega) e2) ?_
  obtain ⟨r3, e3, h⟩ := sd_bnd h
  refine sd_b_call [.inr (.inr (some (331))), .inl (r2.1)] [] rfl rfl sd_i_X10_layDown rfl rfl (Nat.le_of_ble_eq_true rfl) (sd_rc_v sd_o_331) (m_X10_layDown (by omega) e3) ?_
  refine sd_b_go 1 (pc2 := 90) (lv2 := [(2, .inl (s0)), (0, .inr (.inr (some (331)))), (1, .inl (v1))]) (st2 := [.inr (.inr (some (331)))]) rfl ?_
  refine sd_b_gr (k := 15) sd_o_331 rfl rfl rfl ?_
  refine sd_b_go 1 (pc2 := 94) (lv2 := [(2, .inl (s0)), (0, .inr (.inr (some (331)))), (1, .inl (v1))]) (st2 := [.inr (.inr (some (331))), .inr (.inr (some (338)))]) rfl ?_
  refine sd_b_gi (k := 16) sd_o_331 rfl rfl rfl ?_
  refine sd_b_go 1 (pc2 := 98) (lv2 := [(2, .inl (s0)), (0, .inr (.inr (some (331)))), (1, .inl (v1))]) (st2 := [.inl (s0), .inl (r3.2 331 16), .inr (.inr (some (338)))]) rfl ?_
  obtain ⟨g4, h⟩ := sd_if h
  refine sd_b_si (sd_oa sd_o_331 (by decide) (off := 7) (List.mem_of_getElem? (i := 6) rfl)) g4 rfl ?_
  refine sd_b_go 2 (pc2 := 101) (lv2 := [(2, .inl (s0)), (0, .inr (.inr (some (331)))), (1, .inl (v1))]) (st2 := [.inr (.inr (some (331))), .inr (.inr (some (331)))]) rfl ?_
  refine sd_b_gi (k := 16) sd_o_331 rfl rfl rfl ?_
  refine sd_b_go 2 (pc2 := 106) (lv2 := [(2, .inl (s0)), (0, .inr (.inr (some (331)))), (1, .inl (v1))]) (st2 := [.inl (sd_w ((sd_s r3.2 338 (r3.2 331 16).toNat s0 331 16) + 1)), .inr (.inr (some (331)))]) rfl ?_
  refine sd_b_pi (k := 16) sd_o_331 rfl rfl rfl rfl rfl ?_
  refine sd_b_go 1 (pc2 := 12) (lv2 := [(2, .inl (s0)), (0, .inr (.inr (some (331)))), (1, .inl (v1))]) (st2 := []) rfl ?_
  refine sd_b_wk [(0, .inr (.inr (some (331)))), (1, .inl (v1))] (List.forall_mem_cons.mpr ⟨rfl, (List.forall_mem_cons.mpr ⟨rfl, (fun _ h0 => absurd h0 List.not_mem_nil)⟩)⟩) ?_
  exact hk12 v1 (sd_s (sd_s r3.2 338 (r3.2 331 16).toNat s0) 331 16 (sd_w ((sd_s r3.2 338 (r3.2 331 16).toNat s0 331 16) + 1))) _ h
def f_X10_tested_54 (k12 : Int → sd_M → Option (Int × sd_M)) (k112 : sd_M → Option (Int × sd_M)) (s0 : Int) (M : sd_M) : Option (Int × sd_M) := if s0 = 0 then (k12 s0 M) else ((f_X10_isWord 6385252 M).bind fun r2 => if r2.1 = 0 then (f_X10_tested_76 k12 k112 s0 13 r2.2) else (f_X10_tested_76 k12 k112 s0 12 r2.2))
set_option maxRecDepth 4000 in
theorem t_X10_tested_54 {X : Nat → List sd_V → List sd_E → sd_A → Prop} {d : Nat} (hd : 8 ≤ d) (k12 : Int → sd_M → Option (Int × sd_M)) (k112 : sd_M → Option (Int × sd_M)) (hk12 : ∀ (v1 : Int) (M : sd_M) (Rr : Int × sd_M), k12 v1 M = some Rr → sd_B X d sd_q_X10_tested 12 [(0, .inr (.inr (some (331)))), (1, .inl (v1))] [] M (some (.inl Rr.1), sd_rp Rr.2, 0, 0)) (hk112 : ∀ (M : sd_M) (Rr : Int × sd_M), k112 M = some Rr → sd_B X d sd_q_X10_tested 112 [(0, .inr (.inr (some (331))))] [] M (some (.inl Rr.1), sd_rp Rr.2, 0, 0)) (s0 : Int) (M : sd_M) (Rr : Int × sd_M) (h : f_X10_tested_54 k12 k112 s0 M = some Rr) : sd_B X d sd_q_X10_tested 54 [(0, .inr (.inr (some (331))))] [.inl (s0)] M (some (.inl Rr.1), sd_rp Rr.2, 0, 0) := by
  unfold f_X10_tested_54 at h
  refine sd_b_go 2 (pc2 := 56) (lv2 := [(1, .inl (s0)), (0, .inr (.inr (some (331))))]) (st2 := [.inl (s0)]) rfl ?_
  by_cases c1 : s0 = 0
  · rw [if_pos c1] at h
    refine sd_b_zt (c := .eq) (tgt := 12) rfl (decide_eq_true c1) (by decide) ?_
    refine sd_b_wk [(0, .inr (.inr (some (331)))), (1, .inl (s0))] (List.forall_mem_cons.mpr ⟨rfl, (List.forall_mem_cons.mpr ⟨rfl, (fun _ h0 => absurd h0 List.not_mem_nil)⟩)⟩) ?_
    exact hk12 s0 M _ h
  · rw [if_neg c1] at h
    refine sd_b_zf (c := .eq) rfl (decide_eq_false c1) (by decide) ?_
    refine sd_b_go 2 (pc2 := 63) (lv2 := [(1, .inl (s0)), (0, .inr (.inr (some (331))))]) (st2 := [.inr (.inl (6385252)), .inr (.inr (some (331)))]) rfl ?_
    obtain ⟨r2, e2, h⟩ := sd_bnd h
    refine sd_b_call [.inr (.inr (some (331))), .inr (.inl (6385252))] [] rfl rfl sd_i_X10_isWord rfl rfl (Nat.le_of_ble_eq_true rfl) (sd_rc_v sd_o_331) (m_X10_isWord (by omega) e2) ?_
    by_cases c3 : r2.1 = 0
    · rw [if_pos c3] at h
      refine sd_b_zt (c := .eq) (tgt := 74) rfl (decide_eq_true c3) (by decide) ?_
      refine sd_b_go 1 (pc2 := 76) (lv2 := [(1, .inl (s0)), (0, .inr (.inr (some (331))))]) (st2 := [.inl (13)]) rfl ?_
      refine sd_b_wk [(0, .inr (.inr (some (331)))), (1, .inl (s0))] (List.forall_mem_cons.mpr ⟨rfl, (List.forall_mem_cons.mpr ⟨rfl, (fun _ h0 => absurd h0 List.not_mem_nil)⟩)⟩) ?_
      exact t_X10_tested_76 hd k12 k112 hk12 hk112 s0 13 r2.2 _ h
    · rw [if_neg c3] at h
      refine sd_b_zf (c := .eq) rfl (decide_eq_false c3) (by decide) ?_
      refine sd_b_go 2 (pc2 := 76) (lv2 := [(1, .inl (s0)), (0, .inr (.inr (some (331))))]) (st2 := [.inl (12)]) rfl ?_
      refine sd_b_wk [(0, .inr (.inr (some (331)))), (1, .inl (s0))] (List.forall_mem_cons.mpr ⟨rfl, (List.forall_mem_cons.mpr ⟨rfl, (fun _ h0 => absurd h0 List.not_mem_nil)⟩)⟩) ?_
      exact t_X10_tested_76 hd k12 k112 hk12 hk112 s0 12 r2.2 _ h
def f_X10_tested_49 (k12 : Int → sd_M → Option (Int × sd_M)) (k112 : sd_M → Option (Int × sd_M)) (M : sd_M) : Option (Int × sd_M) := f_X10_tested_54 k12 k112 1 M
set_option maxRecDepth 4000 in
theorem t_X10_tested_49 {X : Nat → List sd_V → List sd_E → sd_A → Prop} {d : Nat} (hd : 8 ≤ d) (k12 : Int → sd_M → Option (Int × sd_M)) (k112 : sd_M → Option (Int × sd_M)) (hk12 : ∀ (v1 : Int) (M : sd_M) (Rr : Int × sd_M), k12 v1 M = some Rr → sd_B X d sd_q_X10_tested 12 [(0, .inr (.inr (some (331)))), (1, .inl (v1))] [] M (some (.inl Rr.1), sd_rp Rr.2, 0, 0)) (hk112 : ∀ (M : sd_M) (Rr : Int × sd_M), k112 M = some Rr → sd_B X d sd_q_X10_tested 112 [(0, .inr (.inr (some (331))))] [] M (some (.inl Rr.1), sd_rp Rr.2, 0, 0)) (M : sd_M) (Rr : Int × sd_M) (h : f_X10_tested_49 k12 k112 M = some Rr) : sd_B X d sd_q_X10_tested 49 [(0, .inr (.inr (some (331))))] [] M (some (.inl Rr.1), sd_rp Rr.2, 0, 0) := by
  unfold f_X10_tested_49 at h
  refine sd_b_go 2 (pc2 := 54) (lv2 := [(0, .inr (.inr (some (331))))]) (st2 := [.inl (1)]) rfl ?_
  refine sd_b_wk [(0, .inr (.inr (some (331))))] (List.forall_mem_cons.mpr ⟨rfl, (fun _ h0 => absurd h0 List.not_mem_nil)⟩) ?_
  exact t_X10_tested_54 hd k12 k112 hk12 hk112 1 M _ h
def f_X10_tested_12 (k112 : sd_M → Option (Int × sd_M)) : Nat → Int → sd_M → Option (Int × sd_M)
  | 0, _, _ => none
  | n + 1, v1, M => if v1 = 0 then (k112 M) else ((f_X10_fact M).bind fun r2 => if r2.1 = 0 then (some (0, r2.2)) else ((f_X10_closes r2.2).bind fun r4 => (f_X10_isWord 6385252 r4.2).bind fun r5 => if r5.1 = 0 then ((f_X10_isWord 28530 r5.2).bind fun r7 => if r7.1 = 0 then (f_X10_tested_54 (f_X10_tested_12 k112 n) k112 0 r7.2) else (f_X10_tested_49 (f_X10_tested_12 k112 n) k112 r7.2)) else (f_X10_tested_49 (f_X10_tested_12 k112 n) k112 r5.2)))
set_option maxRecDepth 4000 in
theorem t_X10_tested_12 {X : Nat → List sd_V → List sd_E → sd_A → Prop} {d : Nat} (hd : 8 ≤ d) (k112 : sd_M → Option (Int × sd_M)) (hk112 : ∀ (M : sd_M) (Rr : Int × sd_M), k112 M = some Rr → sd_B X d sd_q_X10_tested 112 [(0, .inr (.inr (some (331))))] [] M (some (.inl Rr.1), sd_rp Rr.2, 0, 0)) : ∀ (n : Nat) (v1 : Int) (M : sd_M) (Rr : Int × sd_M), f_X10_tested_12 k112 n v1 M = some Rr → sd_B X d sd_q_X10_tested 12 [(0, .inr (.inr (some (331)))), (1, .inl (v1))] [] M (some (.inl Rr.1), sd_rp Rr.2, 0, 0) := by
  intro n
  induction n with
  | zero => intro v1 M Rr h; cases h
  | succ n ih =>
    intro v1 M Rr h
    rw [f_X10_tested_12] at h
    refine sd_b_go 1 (pc2 := 13) (lv2 := [(0, .inr (.inr (some (331)))), (1, .inl (v1))]) (st2 := [.inl (v1)]) rfl ?_
    by_cases c1 : v1 = 0
    · rw [if_pos c1] at h
      refine sd_b_zt (c := .eq) (tgt := 112) rfl (decide_eq_true c1) (by decide) ?_
      refine sd_b_wk [(0, .inr (.inr (some (331))))] (List.forall_mem_cons.mpr ⟨rfl, (fun _ h0 => absurd h0 List.not_mem_nil)⟩) ?_
      exact hk112 M _ h
    · rw [if_neg c1] at h
      refine sd_b_zf (c := .eq) rfl (decide_eq_false c1) (by decide) ?_
      refine sd_b_go 1 (pc2 := 17) (lv2 := [(0, .inr (.inr (some (331)))), (1, .inl (v1))]) (st2 := [.inr (.inr (some (331)))]) rfl ?_
      obtain ⟨r2, e2, h⟩ := sd_bnd h
      refine sd_b_call [.inr (.inr (some (331)))] [] rfl rfl sd_i_X10_fact rfl rfl (Nat.le_of_ble_eq_true rfl) (sd_rc_v sd_o_331) (m_X10_fact (by omega) e2) ?_
      by_cases c3 : r2.1 = 0
      · rw [if_pos c3] at h
        refine sd_b_zf (c := .ne) rfl (decide_eq_false (not_not_intro c3)) (by decide) ?_
        refine sd_b_go 1 (pc2 := 24) (lv2 := [(0, .inr (.inr (some (331)))), (1, .inl (v1))]) (st2 := [.inl (0)]) rfl ?_
        cases h
        exact sd_b_rt rfl rfl rfl
      · rw [if_neg c3] at h
        refine sd_b_zt (c := .ne) (tgt := 25) rfl (decide_eq_true c3) (by decide) ?_
        refine sd_b_go 1 (pc2 := 26) (lv2 := [(0, .inr (.inr (some (331)))), (1, .inl (v1))]) (st2 := [.inr (.inr (some (331)))]) rfl ?_
        obtain ⟨r4, e4, h⟩ := sd_bnd h
        refine sd_b_call [.inr (.inr (some (331)))] [] rfl rfl sd_i_X10_closes rfl rfl (Nat.le_of_ble_eq_true rfl) (sd_rc_v sd_o_331) (m_X10_closes (by omega) e4) ?_
        refine sd_b_go 2 (pc2 := 33) (lv2 := [(0, .inr (.inr (some (331)))), (1, .inl (v1))]) (st2 := [.inr (.inl (6385252)), .inr (.inr (some (331)))]) rfl ?_
        obtain ⟨r5, e5, h⟩ := sd_bnd h
        refine sd_b_call [.inr (.inr (some (331))), .inr (.inl (6385252))] [] rfl rfl sd_i_X10_isWord rfl rfl (Nat.le_of_ble_eq_true rfl) (sd_rc_v sd_o_331) (m_X10_isWord (by omega) e5) ?_
        by_cases c6 : r5.1 = 0
        · rw [if_pos c6] at h
          refine sd_b_zf (c := .ne) rfl (decide_eq_false (not_not_intro c6)) (by decide) ?_
          refine sd_b_go 2 (pc2 := 43) (lv2 := [(0, .inr (.inr (some (331)))), (1, .inl (v1))]) (st2 := [.inr (.inl (28530)), .inr (.inr (some (331)))]) rfl ?_
          obtain ⟨r7, e7, h⟩ := sd_bnd h
          refine sd_b_call [.inr (.inr (some (331))), .inr (.inl (28530))] [] rfl rfl sd_i_X10_isWord rfl rfl (Nat.le_of_ble_eq_true rfl) (sd_rc_v sd_o_331) (m_X10_isWord (by omega) e7) ?_
          by_cases c8 : r7.1 = 0
          · rw [if_pos c8] at h
            refine sd_b_zt (c := .eq) (tgt := 53) rfl (decide_eq_true c8) (by decide) ?_
            refine sd_b_go 1 (pc2 := 54) (lv2 := [(0, .inr (.inr (some (331)))), (1, .inl (v1))]) (st2 := [.inl (0)]) rfl ?_
            refine sd_b_wk [(0, .inr (.inr (some (331))))] (List.forall_mem_cons.mpr ⟨rfl, (fun _ h0 => absurd h0 List.not_mem_nil)⟩) ?_
            exact t_X10_tested_54 hd (f_X10_tested_12 k112 n) k112 ih hk112 0 r7.2 _ h
          · rw [if_neg c8] at h
            refine sd_b_zf (c := .eq) rfl (decide_eq_false c8) (by decide) ?_
            refine sd_b_wk [(0, .inr (.inr (some (331))))] (List.forall_mem_cons.mpr ⟨rfl, (fun _ h0 => absurd h0 List.not_mem_nil)⟩) ?_
            exact t_X10_tested_49 hd (f_X10_tested_12 k112 n) k112 ih hk112 r7.2 _ h
        · rw [if_neg c6] at h
          refine sd_b_zt (c := .ne) (tgt := 49) rfl (decide_eq_true c6) (by decide) ?_
          refine sd_b_wk [(0, .inr (.inr (some (331))))] (List.forall_mem_cons.mpr ⟨rfl, (fun _ h0 => absurd h0 List.not_mem_nil)⟩) ?_
          exact t_X10_tested_49 hd (f_X10_tested_12 k112 n) k112 ih hk112 r5.2 _ h
def f_X10_tested_112 (M : sd_M) : Option (Int × sd_M) := (f_X10_isInside M).bind fun r1 => if r1.1 = 0 then ((f_X10_layDown 1 r1.2).bind fun r3 => some (1, r3.2)) else ((f_X10_see r1.2).bind fun r4 => (f_X10_fails 0 (r4.2 331 8) r4.2).bind fun r5 => if r5.1 = 0 ∨ r5.1 = 1 then some (r5.1, r5.2) else none)
set_option maxRecDepth 4000 in
theorem t_X10_tested_112 {X : Nat → List sd_V → List sd_E → sd_A → Prop} {d : Nat} (hd : 8 ≤ d) (M : sd_M) (Rr : Int × sd_M) (h : f_X10_tested_112 M = some Rr) : sd_B X d sd_q_X10_tested 112 [(0, .inr (.inr (some (331))))] [] M (some (.inl Rr.1), sd_rp Rr.2, 0, 0) := by
  unfold f_X10_tested_112 at h
  refine sd_b_go 1 (pc2 := 113) (lv2 := [(0, .inr (.inr (some (331))))]) (st2 := [.inr (.inr (some (331)))]) rfl ?_
  obtain ⟨r1, e1, h⟩ := sd_bnd h
  refine sd_b_call [.inr (.inr (some (331)))] [] rfl rfl sd_i_X10_isInside rfl rfl (Nat.le_of_ble_eq_true rfl) (sd_rc_v sd_o_331) (m_X10_isInside (by omega) e1) ?_
  by_cases c2 : r1.1 = 0
  · rw [if_pos c2] at h
    refine sd_b_zt (c := .eq) (tgt := 134) rfl (decide_eq_true c2) (by decide) ?_
    refine sd_b_go 2 (pc2 := 136) (lv2 := [(0, .inr (.inr (some (331))))]) (st2 := [.inl (1), .inr (.inr (some (331)))]) rfl ?_
    obtain ⟨r3, e3, h⟩ := sd_bnd h
    refine sd_b_call [.inr (.inr (some (331))), .inl (1)] [] rfl rfl sd_i_X10_layDown rfl rfl (Nat.le_of_ble_eq_true rfl) (sd_rc_v sd_o_331) (m_X10_layDown (by omega) e3) ?_
    refine sd_b_go 1 (pc2 := 140) (lv2 := [(0, .inr (.inr (some (331))))]) (st2 := [.inl (1)]) rfl ?_
    cases h
    exact sd_b_rt rfl rfl rfl
  · rw [if_neg c2] at h
    refine sd_b_zf (c := .eq) rfl (decide_eq_false c2) (by decide) ?_
    refine sd_b_go 1 (pc2 := 120) (lv2 := [(0, .inr (.inr (some (331))))]) (st2 := [.inr (.inr (some (331)))]) rfl ?_
    obtain ⟨r4, e4, h⟩ := sd_bnd h
    refine sd_b_call [.inr (.inr (some (331)))] [] rfl rfl sd_i_X10_see rfl rfl (Nat.le_of_ble_eq_true rfl) (sd_rc_v sd_o_331) (m_X10_see (by omega) e4) ?_
    refine sd_b_go 4 (pc2 := 127) (lv2 := [(0, .inr (.inr (some (331))))]) (st2 := [.inr (.inr (some (331))), .inl (0), .inr (.inr (some (331)))]) rfl ?_
    refine sd_b_gi (k := 8) sd_o_331 rfl rfl rfl ?_
    obtain ⟨r5, e5, h⟩ := sd_bnd h
    refine sd_b_call [.inr (.inr (some (331))), .inl (0), .inl (r4.2 331 8)] [] rfl rfl sd_i_X10_fails rfl rfl (Nat.le_of_ble_eq_true rfl) (sd_rc_v sd_o_331) (m_X10_fails (by omega) e5) ?_
    obtain ⟨g6, h⟩ := sd_if h
    cases h
    exact sd_b_rz g6 rfl rfl
def f_X10_tested (M : sd_M) : Option (Int × sd_M) := f_X10_tested_12 (f_X10_tested_112) 4000 1 (sd_s (sd_s M 331 16 0) 331 13 0)
set_option maxRecDepth 4000 in
theorem t_X10_tested {X : Nat → List sd_V → List sd_E → sd_A → Prop} {d : Nat} (hd : 8 ≤ d) (M : sd_M) (Rr : Int × sd_M) (h : f_X10_tested M = some Rr) : sd_B X d sd_q_X10_tested 0 [(0, .inr (.inr (some (331))))] [] M (some (.inl Rr.1), sd_rp Rr.2, 0, 0) := by
  unfold f_X10_tested at h
  refine sd_b_go 2 (pc2 := 2) (lv2 := [(0, .inr (.inr (some (331))))]) (st2 := [.inl (0), .inr (.inr (some (331)))]) rfl ?_
  refine sd_b_pi (k := 16) sd_o_331 rfl rfl rfl rfl rfl ?_
  refine sd_b_go 2 (pc2 := 7) (lv2 := [(0, .inr (.inr (some (331))))]) (st2 := [.inl (0), .inr (.inr (some (331)))]) rfl ?_
  refine sd_b_pi (k := 13) sd_o_331 rfl rfl rfl rfl rfl ?_
  refine sd_b_go 2 (pc2 := 12) (lv2 := [(1, .inl (1)), (0, .inr (.inr (some (331))))]) (st2 := []) rfl ?_
  refine sd_b_wk [(0, .inr (.inr (some (331)))), (1, .inl (1))] (List.forall_mem_cons.mpr ⟨rfl, (List.forall_mem_cons.mpr ⟨rfl, (fun _ h0 => absurd h0 List.not_mem_nil)⟩)⟩) ?_
  exact t_X10_tested_12 hd (f_X10_tested_112) (t_X10_tested_112 hd) 4000 1 (sd_s (sd_s M 331 16 0) 331 13 0) _ h
theorem m_X10_tested {X : Nat → List sd_V → List sd_E → sd_A → Prop} {d : Nat} (hd : 9 ≤ d) {M : sd_M} {Rr : Int × sd_M} (h : f_X10_tested M = some Rr) : sd_Cal X d 156 [.inr (.inr (some (331)))] (sd_rp M) (some (.inl Rr.1), sd_rp Rr.2, 0, 0) := by
  obtain ⟨d, rfl⟩ : ∃ d2, d = d2 + 1 := ⟨d - 1, by omega⟩
  exact sd_cal_of sd_i_X10_tested (Nat.le_of_ble_eq_true rfl) (t_X10_tested (by omega) M Rr h)
