-- X9_note
def sd_q_X9_note : sd_MI := (yX9_note, cX9_note, 3, (some .int), 9, 2, sd_t_X9_note)
set_option maxRecDepth 4000 in
theorem sd_i_X9_note : sd_mL[109]? = some sd_q_X9_note := rfl
def f_X9_note_54 (v1 : Int) (v2 : Int) (M : sd_M) : Option (Int × sd_M) := (f_X3_adds 74 v1 v2 M).bind fun r1 => if r1.1 = 0 then (some ((-2), r1.2)) else (some (r1.2 74 0, r1.2))
set_option maxRecDepth 4000 in
theorem t_X9_note_54 {X : Nat → List sd_V → List sd_E → sd_A → Prop} {d : Nat} (hd : 1 ≤ d) (v1 : Int) (v2 : Int) (M : sd_M) (Rr : Int × sd_M) (h : f_X9_note_54 v1 v2 M = some Rr) : sd_B X d sd_q_X9_note 54 [(0, .inr (.inr (some (0)))), (1, .inl (v1)), (2, .inl (v2))] [] M (some (.inl Rr.1), sd_rp Rr.2, 0, 0) := by
  unfold f_X9_note_54 at h
  refine sd_b_go 1 (pc2 := 55) (lv2 := [(0, .inr (.inr (some (0)))), (1, .inl (v1)), (2, .inl (v2))]) (st2 := [.inr (.inr (some (0)))]) rfl ?_
  refine sd_b_gr (k := 5) sd_o_0 rfl rfl rfl ?_
  refine sd_b_gr (k := 2) sd_o_58 rfl rfl rfl ?_
  refine sd_b_go 2 (pc2 := 63) (lv2 := [(0, .inr (.inr (some (0)))), (1, .inl (v1)), (2, .inl (v2))]) (st2 := [.inl (v2), .inl (v1), .inr (.inr (some (74)))]) rfl ?_
  obtain ⟨r1, e1, h⟩ := sd_bnd h
  refine sd_b_call [.inr (.inr (some (74))), .inl (v1), .inl (v2)] [] rfl rfl sd_i_X3_adds rfl rfl (Nat.le_of_ble_eq_true rfl) (sd_rc_v sd_o_74) (m_X3_adds (by omega) sd_o_74 e1) ?_
  by_cases c2 : r1.1 = 0
  · rw [if_pos c2] at h
    refine sd_b_zf (c := .ne) rfl (decide_eq_false (not_not_intro c2)) (by decide) ?_
    refine sd_b_go 1 (pc2 := 71) (lv2 := [(0, .inr (.inr (some (0)))), (1, .inl (v1)), (2, .inl (v2))]) (st2 := [.inl ((-2))]) rfl ?_
    cases h
    exact sd_b_rt rfl rfl rfl
  · rw [if_neg c2] at h
    refine sd_b_zt (c := .ne) (tgt := 72) rfl (decide_eq_true c2) (by decide) ?_
    refine sd_b_go 1 (pc2 := 73) (lv2 := [(0, .inr (.inr (some (0)))), (1, .inl (v1)), (2, .inl (v2))]) (st2 := [.inr (.inr (some (0)))]) rfl ?_
    refine sd_b_gr (k := 5) sd_o_0 rfl rfl rfl ?_
    refine sd_b_gr (k := 2) sd_o_58 rfl rfl rfl ?_
    refine sd_b_gi (k := 0) sd_o_74 rfl rfl rfl ?_
    cases h
    exact sd_b_rt rfl rfl rfl
def f_X9_note (p1 : Int) (p2 : Int) (M : sd_M) : Option (Int × sd_M) := if p1 = ((-1)) then (some (0, sd_s M 74 0 0)) else (if (M 59 0) = 0 then (some ((-2), M)) else (if p1 < 0 then (some ((-2), M)) else (if 31 ≤ p1 then (some ((-2), M)) else (if p2 = ((-1)) then (f_X9_note_54 p1 p2 M) else ((f_X9_isOffer p2 M).bind fun r6 => if r6.1 = 0 then (some ((-2), r6.2)) else (f_X9_note_54 p1 p2 r6.2))))))
set_option maxRecDepth 4000 in
theorem t_X9_note {X : Nat → List sd_V → List sd_E → sd_A → Prop} {d : Nat} (hd : 1 ≤ d) (p1 : Int) (p2 : Int) (M : sd_M) (Rr : Int × sd_M) (h : f_X9_note p1 p2 M = some Rr) : sd_B X d sd_q_X9_note 0 [(0, .inr (.inr (some (0)))), (1, .inl (p1)), (2, .inl (p2))] [] M (some (.inl Rr.1), sd_rp Rr.2, 0, 0) := by
  unfold f_X9_note at h
  refine sd_b_go 2 (pc2 := 2) (lv2 := [(0, .inr (.inr (some (0)))), (1, .inl (p1)), (2, .inl (p2))]) (st2 := [.inl ((-1)), .inl (p1)]) rfl ?_
  by_cases c1 : p1 = ((-1))
  · rw [if_pos c1] at h
    refine sd_b_cf (c := .ne) rfl (decide_eq_false (not_not_intro c1)) (by decide) ?_
    refine sd_b_go 1 (pc2 := 6) (lv2 := [(0, .inr (.inr (some (0)))), (1, .inl (p1)), (2, .inl (p2))]) (st2 := [.inr (.inr (some (0)))]) rfl ?_
    refine sd_b_gr (k := 5) sd_o_0 rfl rfl rfl ?_
    refine sd_b_gr (k := 2) sd_o_58 rfl rfl rfl ?_
    refine sd_b_go 1 (pc2 := 13) (lv2 := [(0, .inr (.inr (some (0)))), (1, .inl (p1)), (2, .inl (p2))]) (st2 := [.inl (0), .inr (.inr (some (74)))]) rfl ?_
    refine sd_b_pi (k := 0) sd_o_74 rfl rfl rfl rfl rfl ?_
    refine sd_b_go 1 (pc2 := 17) (lv2 := [(0, .inr (.inr (some (0)))), (1, .inl (p1)), (2, .inl (p2))]) (st2 := [.inl (0)]) rfl ?_
    cases h
    exact sd_b_rt rfl rfl rfl
  · rw [if_neg c1] at h
    refine sd_b_ct (c := .ne) (tgt := 18) rfl (decide_eq_true c1) (by decide) ?_
    refine sd_b_go 1 (pc2 := 19) (lv2 := [(0, .inr (.inr (some (0)))), (1, .inl (p1)), (2, .inl (p2))]) (st2 := [.inr (.inr (some (0)))]) rfl ?_
    refine sd_b_gr (k := 5) sd_o_0 rfl rfl rfl ?_
    refine sd_b_gr (k := 0) sd_o_58 rfl rfl rfl ?_
    refine sd_b_gi (k := 0) sd_o_59 rfl rfl rfl ?_
    by_cases c2 : (M 59 0) = 0
    · rw [if_pos c2] at h
      refine sd_b_zt (c := .eq) (tgt := 69) rfl (decide_eq_true c2) (by decide) ?_
      refine sd_b_go 1 (pc2 := 71) (lv2 := [(0, .inr (.inr (some (0)))), (1, .inl (p1)), (2, .inl (p2))]) (st2 := [.inl ((-2))]) rfl ?_
      cases h
      exact sd_b_rt rfl rfl rfl
    · rw [if_neg c2] at h
      refine sd_b_zf (c := .eq) rfl (decide_eq_false c2) (by decide) ?_
      refine sd_b_go 1 (pc2 := 32) (lv2 := [(0, .inr (.inr (some (0)))), (1, .inl (p1)), (2, .inl (p2))]) (st2 := [.inl (p1)]) rfl ?_
      by_cases c3 : p1 < 0
      · rw [if_pos c3] at h
        refine sd_b_zt (c := .lt) (tgt := 69) rfl (decide_eq_true c3) (by decide) ?_
        refine sd_b_go 1 (pc2 := 71) (lv2 := [(0, .inr (.inr (some (0)))), (1, .inl (p1)), (2, .inl (p2))]) (st2 := [.inl ((-2))]) rfl ?_
        cases h
        exact sd_b_rt rfl rfl rfl
      · rw [if_neg c3] at h
        refine sd_b_zf (c := .lt) rfl (decide_eq_false c3) (by decide) ?_
        refine sd_b_go 2 (pc2 := 38) (lv2 := [(0, .inr (.inr (some (0)))), (1, .inl (p1)), (2, .inl (p2))]) (st2 := [.inl (31), .inl (p1)]) rfl ?_
        by_cases c4 : 31 ≤ p1
        · rw [if_pos c4] at h
          refine sd_b_ct (c := .ge) (tgt := 69) rfl (decide_eq_true c4) (by decide) ?_
          refine sd_b_go 1 (pc2 := 71) (lv2 := [(0, .inr (.inr (some (0)))), (1, .inl (p1)), (2, .inl (p2))]) (st2 := [.inl ((-2))]) rfl ?_
          cases h
          exact sd_b_rt rfl rfl rfl
        · rw [if_neg c4] at h
          refine sd_b_cf (c := .ge) rfl (decide_eq_false c4) (by decide) ?_
          refine sd_b_go 2 (pc2 := 43) (lv2 := [(0, .inr (.inr (some (0)))), (1, .inl (p1)), (2, .inl (p2))]) (st2 := [.inl ((-1)), .inl (p2)]) rfl ?_
          by_cases c5 : p2 = ((-1))
          · rw [if_pos c5] at h
            refine sd_b_ct (c := .eq) (tgt := 54) rfl (decide_eq_true c5) (by decide) ?_
            refine sd_b_wk [(0, .inr (.inr (some (0)))), (1, .inl (p1)), (2, .inl (p2))] (List.forall_mem_cons.mpr ⟨rfl, (List.forall_mem_cons.mpr ⟨rfl, (List.forall_mem_cons.mpr ⟨rfl, (fun _ h0 => absurd h0 List.not_mem_nil)⟩)⟩)⟩) ?_
            exact t_X9_note_54 hd p1 p2 M _ h
          · rw [if_neg c5] at h
            refine sd_b_cf (c := .eq) rfl (decide_eq_false c5) (by decide) ?_
            refine sd_b_go 2 (pc2 := 48) (lv2 := [(0, .inr (.inr (some (0)))), (1, .inl (p1)), (2, .inl (p2))]) (st2 := [.inl (p2), .inr (.inr (some (0)))]) rfl ?_
            obtain ⟨r6, e6, h⟩ := sd_bnd h
            refine sd_b_call [.inr (.inr (some (0))), .inl (p2)] [] rfl rfl sd_i_X9_isOffer rfl rfl (Nat.le_of_ble_eq_true rfl) (sd_rc_v sd_o_0) (m_X9_isOffer (by omega) e6) ?_
            by_cases c7 : r6.1 = 0
            · rw [if_pos c7] at h
              refine sd_b_zt (c := .eq) (tgt := 69) rfl (decide_eq_true c7) (by decide) ?_
              refine sd_b_go 1 (pc2 := 71) (lv2 := [(0, .inr (.inr (some (0)))), (1, .inl (p1)), (2, .inl (p2))]) (st2 := [.inl ((-2))]) rfl ?_
              cases h
              exact sd_b_rt rfl rfl rfl
            · rw [if_neg c7] at h
              refine sd_b_zf (c := .eq) rfl (decide_eq_false c7) (by decide) ?_
              refine sd_b_wk [(0, .inr (.inr (some (0)))), (1, .inl (p1)), (2, .inl (p2))] (List.forall_mem_cons.mpr ⟨rfl, (List.forall_mem_cons.mpr ⟨rfl, (List.forall_mem_cons.mpr ⟨rfl, (fun _ h0 => absurd h0 List.not_mem_nil)⟩)⟩)⟩) ?_
              exact t_X9_note_54 hd p1 p2 r6.2 _ h
theorem m_X9_note {X : Nat → List sd_V → List sd_E → sd_A → Prop} {d : Nat} (hd : 2 ≤ d) {p1 : Int} {p2 : Int} {M : sd_M} {Rr : Int × sd_M} (h : f_X9_note p1 p2 M = some Rr) : sd_Cal X d 109 [.inr (.inr (some (0))), .inl (p1), .inl (p2)] (sd_rp M) (some (.inl Rr.1), sd_rp Rr.2, 0, 0) := by
  obtain ⟨d, rfl⟩ : ∃ d2, d = d2 + 1 := ⟨d - 1, by omega⟩
  exact sd_cal_of sd_i_X9_note (Nat.le_of_ble_eq_true rfl) (t_X9_note (by omega) p1 p2 M Rr h)
-- X9_image
def sd_q_X9_image : sd_MI := (yX9_image, cX9_image, 2, (some .int), 9, 1, sd_t_X9_image)
set_option maxRecDepth 4000 in
theorem sd_i_X9_image : sd_mL[121]? = some sd_q_X9_image := rfl
def f_X9_image (p1 : Int) (M : sd_M) : Option (Int × sd_M) := if p1 < 0 then (some ((-1), M)) else (if p1 < 4 then (if 0 ≤ p1 ∧ p1 < 4 then ((f_X2_copyFrom (78 + 19 * p1.toNat) 58 M).bind fun r4 => if 0 ≤ p1 ∧ p1 < 4 then (some (sd_s r4.2 154 p1.toNat 1 66 1, sd_s r4.2 154 p1.toNat 1)) else none) else none) else (some ((-1), M)))
set_option maxRecDepth 4000 in
theorem t_X9_image {X : Nat → List sd_V → List sd_E → sd_A → Prop} {d : Nat} (hd : 2 ≤ d) (p1 : Int) (M : sd_M) (Rr : Int × sd_M) (h : f_X9_image p1 M = some Rr) : sd_B X d sd_q_X9_image 0 [(0, .inr (.inr (some (0)))), (1, .inl (p1))] [] M (some (.inl Rr.1), sd_rp Rr.2, 0, 0) := by
  unfold f_X9_image at h
  refine sd_b_go 1 (pc2 := 1) (lv2 := [(0, .inr (.inr (some (0)))), (1, .inl (p1))]) (st2 := [.inl (p1)]) rfl ?_
  by_cases c1 : p1 < 0
  · rw [if_pos c1] at h
    refine sd_b_zt (c := .lt) (tgt := 9) rfl (decide_eq_true c1) (by decide) ?_
    refine sd_b_go 1 (pc2 := 10) (lv2 := [(0, .inr (.inr (some (0)))), (1, .inl (p1))]) (st2 := [.inl ((-1))]) rfl ?_
    cases h
    exact sd_b_rt rfl rfl rfl
  · rw [if_neg c1] at h
    refine sd_b_zf (c := .lt) rfl (decide_eq_false c1) (by decide) ?_
    refine sd_b_go 2 (pc2 := 6) (lv2 := [(0, .inr (.inr (some (0)))), (1, .inl (p1))]) (st2 := [.inl (4), .inl (p1)]) rfl ?_
    by_cases c2 : p1 < 4
    · rw [if_pos c2] at h
      refine sd_b_ct (c := .lt) (tgt := 11) rfl (decide_eq_true c2) (by decide) ?_
      refine sd_b_go 1 (pc2 := 12) (lv2 := [(0, .inr (.inr (some (0)))), (1, .inl (p1))]) (st2 := [.inr (.inr (some (0)))]) rfl ?_
      refine sd_b_gr (k := 6) sd_o_0 rfl rfl rfl ?_
      refine sd_b_go 1 (pc2 := 16) (lv2 := [(0, .inr (.inr (some (0)))), (1, .inl (p1))]) (st2 := [.inl (p1), .inr (.inr (some (77)))]) rfl ?_
      obtain ⟨g3, h⟩ := sd_if h
      refine sd_b_ar sd_ra_77 g3 rfl ?_
      refine sd_b_go 1 (pc2 := 18) (lv2 := [(0, .inr (.inr (some (0)))), (1, .inl (p1))]) (st2 := [.inr (.inr (some (0))), .inr (.inr (some (78 + 19 * p1.toNat)))]) rfl ?_
      refine sd_b_gr (k := 5) sd_o_0 rfl rfl rfl ?_
      obtain ⟨r4, e4, h⟩ := sd_bnd h
      refine sd_b_call [.inr (.inr (some (78 + 19 * p1.toNat))), .inr (.inr (some (58)))] [] rfl rfl sd_i_X2_copyFrom rfl rfl (Nat.le_of_ble_eq_true rfl) (sd_rc_v (sd_re_77 _ (by omega))) (m_X2_copyFrom (by omega) (sd_re_77 _ (by omega)) sd_o_58 e4) ?_
      refine sd_b_go 1 (pc2 := 25) (lv2 := [(0, .inr (.inr (some (0)))), (1, .inl (p1))]) (st2 := [.inr (.inr (some (0)))]) rfl ?_
      refine sd_b_gr (k := 7) sd_o_0 rfl rfl rfl ?_
      refine sd_b_go 2 (pc2 := 30) (lv2 := [(0, .inr (.inr (some (0)))), (1, .inl (p1))]) (st2 := [.inl (1), .inl (p1), .inr (.inr (some (154)))]) rfl ?_
      obtain ⟨g5, h⟩ := sd_if h
      refine sd_b_sz (sd_oa sd_o_0 (by decide) (off := 154) (List.mem_of_getElem? (i := 0) rfl)) (by decide) g5 rfl ?_
      refine sd_b_go 1 (pc2 := 32) (lv2 := [(0, .inr (.inr (some (0)))), (1, .inl (p1))]) (st2 := [.inr (.inr (some (0)))]) rfl ?_
      refine sd_b_gr (k := 5) sd_o_0 rfl rfl rfl ?_
      refine sd_b_gr (k := 1) sd_o_58 rfl rfl rfl ?_
      refine sd_b_gi (k := 1) sd_o_66 rfl rfl rfl ?_
      cases h
      exact sd_b_rt rfl rfl rfl
    · rw [if_neg c2] at h
      refine sd_b_cf (c := .lt) rfl (decide_eq_false c2) (by decide) ?_
      refine sd_b_go 1 (pc2 := 10) (lv2 := [(0, .inr (.inr (some (0)))), (1, .inl (p1))]) (st2 := [.inl ((-1))]) rfl ?_
      cases h
      exact sd_b_rt rfl rfl rfl
theorem m_X9_image {X : Nat → List sd_V → List sd_E → sd_A → Prop} {d : Nat} (hd : 3 ≤ d) {p1 : Int} {M : sd_M} {Rr : Int × sd_M} (h : f_X9_image p1 M = some Rr) : sd_Cal X d 121 [.inr (.inr (some (0))), .inl (p1)] (sd_rp M) (some (.inl Rr.1), sd_rp Rr.2, 0, 0) := by
  obtain ⟨d, rfl⟩ : ∃ d2, d = d2 + 1 := ⟨d - 1, by omega⟩
  exact sd_cal_of sd_i_X9_image (Nat.le_of_ble_eq_true rfl) (t_X9_image (by omega) p1 M Rr h)
-- X9_back
def sd_q_X9_back : sd_MI := (yX9_back, cX9_back, 2, (some .int), 9, 1, sd_t_X9_back)
set_option maxRecDepth 4000 in
theorem sd_i_X9_back : sd_mL[122]? = some sd_q_X9_back := rfl
def f_X9_back (p1 : Int) (M : sd_M) : Option (Int × sd_M) := if p1 < 0 then (some ((-1), M)) else (if 4 ≤ p1 then (some ((-1), M)) else (if 0 ≤ p1 ∧ p1 < 4 then (if (M 154 p1.toNat) = 0 then (some ((-1), M)) else (if 0 ≤ p1 ∧ p1 < 4 then ((f_X2_copyFrom 58 (78 + 19 * p1.toNat) M).bind fun r6 => some (sd_s r6.2 0 9 0 66 1, sd_s r6.2 0 9 0)) else none)) else none))
set_option maxRecDepth 4000 in
theorem t_X9_back {X : Nat → List sd_V → List sd_E → sd_A → Prop} {d : Nat} (hd : 2 ≤ d) (p1 : Int) (M : sd_M) (Rr : Int × sd_M) (h : f_X9_back p1 M = some Rr) : sd_B X d sd_q_X9_back 0 [(0, .inr (.inr (some (0)))), (1, .inl (p1))] [] M (some (.inl Rr.1), sd_rp Rr.2, 0, 0) := by
  unfold f_X9_back at h
  refine sd_b_go 1 (pc2 := 1) (lv2 := [(0, .inr (.inr (some (0)))), (1, .inl (p1))]) (st2 := [.inl (p1)]) rfl ?_
  by_cases c1 : p1 < 0
  · rw [if_pos c1] at h
    refine sd_b_zt (c := .lt) (tgt := 18) rfl (decide_eq_true c1) (by decide) ?_
    refine sd_b_go 1 (pc2 := 19) (lv2 := [(0, .inr (.inr (some (0)))), (1, .inl (p1))]) (st2 := [.inl ((-1))]) rfl ?_
    cases h
    exact sd_b_rt rfl rfl rfl
  · rw [if_neg c1] at h
    refine sd_b_zf (c := .lt) rfl (decide_eq_false c1) (by decide) ?_
    refine sd_b_go 2 (pc2 := 6) (lv2 := [(0, .inr (.inr (some (0)))), (1, .inl (p1))]) (st2 := [.inl (4), .inl (p1)]) rfl ?_
    by_cases c2 : 4 ≤ p1
    · rw [if_pos c2] at h
      refine sd_b_ct (c := .ge) (tgt := 18) rfl (decide_eq_true c2) (by decide) ?_
      refine sd_b_go 1 (pc2 := 19) (lv2 := [(0, .inr (.inr (some (0)))), (1, .inl (p1))]) (st2 := [.inl ((-1))]) rfl ?_
      cases h
      exact sd_b_rt rfl rfl rfl
    · rw [if_neg c2] at h
      refine sd_b_cf (c := .ge) rfl (decide_eq_false c2) (by decide) ?_
      refine sd_b_go 1 (pc2 := 10) (lv2 := [(0, .inr (.inr (some (0)))), (1, .inl (p1))]) (st2 := [.inr (.inr (some (0)))]) rfl ?_
      refine sd_b_gr (k := 7) sd_o_0 rfl rfl rfl ?_
      refine sd_b_go 1 (pc2 := 14) (lv2 := [(0, .inr (.inr (some (0)))), (1, .inl (p1))]) (st2 := [.inl (p1), .inr (.inr (some (154)))]) rfl ?_
      obtain ⟨g3, h⟩ := sd_if h
      refine sd_b_ab (sd_oa sd_o_0 (by decide) (off := 154) (List.mem_of_getElem? (i := 0) rfl)) (by decide) g3 rfl ?_
      by_cases c4 : (M 154 p1.toNat) = 0
      · rw [if_pos c4] at h
        refine sd_b_zf (c := .ne) rfl (decide_eq_false (not_not_intro c4)) (by decide) ?_
        refine sd_b_go 1 (pc2 := 19) (lv2 := [(0, .inr (.inr (some (0)))), (1, .inl (p1))]) (st2 := [.inl ((-1))]) rfl ?_
        cases h
        exact sd_b_rt rfl rfl rfl
      · rw [if_neg c4] at h
        refine sd_b_zt (c := .ne) (tgt := 20) rfl (decide_eq_true c4) (by decide) ?_
        refine sd_b_go 1 (pc2 := 21) (lv2 := [(0, .inr (.inr (some (0)))), (1, .inl (p1))]) (st2 := [.inr (.inr (some (0)))]) rfl ?_
        refine sd_b_gr (k := 5) sd_o_0 rfl rfl rfl ?_
        refine sd_b_go 1 (pc2 := 25) (lv2 := [(0, .inr (.inr (some (0)))), (1, .inl (p1))]) (st2 := [.inr (.inr (some (0))), .inr (.inr (some (58)))]) rfl ?_
        refine sd_b_gr (k := 6) sd_o_0 rfl rfl rfl ?_
        refine sd_b_go 1 (pc2 := 29) (lv2 := [(0, .inr (.inr (some (0)))), (1, .inl (p1))]) (st2 := [.inl (p1), .inr (.inr (some (77))), .inr (.inr (some (58)))]) rfl ?_
        obtain ⟨g5, h⟩ := sd_if h
        refine sd_b_ar sd_ra_77 g5 rfl ?_
        obtain ⟨r6, e6, h⟩ := sd_bnd h
        refine sd_b_call [.inr (.inr (some (58))), .inr (.inr (some (78 + 19 * p1.toNat)))] [] rfl rfl sd_i_X2_copyFrom rfl rfl (Nat.le_of_ble_eq_true rfl) (sd_rc_v sd_o_58) (m_X2_copyFrom (by omega) sd_o_58 (sd_re_77 _ (by omega)) e6) ?_
        refine sd_b_go 2 (pc2 := 35) (lv2 := [(0, .inr (.inr (some (0)))), (1, .inl (p1))]) (st2 := [.inl (0), .inr (.inr (some (0)))]) rfl ?_
        refine sd_b_pi (k := 9) sd_o_0 rfl rfl rfl rfl rfl ?_
        refine sd_b_go 1 (pc2 := 39) (lv2 := [(0, .inr (.inr (some (0)))), (1, .inl (p1))]) (st2 := [.inr (.inr (some (0)))]) rfl ?_
        refine sd_b_gr (k := 5) sd_o_0 rfl rfl rfl ?_
        refine sd_b_gr (k := 1) sd_o_58 rfl rfl rfl ?_
        refine sd_b_gi (k := 1) sd_o_66 rfl rfl rfl ?_
        cases h
        exact sd_b_rt rfl rfl rfl
theorem m_X9_back {X : Nat → List sd_V → List sd_E → sd_A → Prop} {d : Nat} (hd : 3 ≤ d) {p1 : Int} {M : sd_M} {Rr : Int × sd_M} (h : f_X9_back p1 M = some Rr) : sd_Cal X d 122 [.inr (.inr (some (0))), .inl (p1)] (sd_rp M) (some (.inl Rr.1), sd_rp Rr.2, 0, 0) := by
  obtain ⟨d, rfl⟩ : ∃ d2, d = d2 + 1 := ⟨d - 1, by omega⟩
  exact sd_cal_of sd_i_X9_back (Nat.le_of_ble_eq_true rfl) (t_X9_back (by omega) p1 M Rr h)
-- X10_slip
def sd_q_X10_slip : sd_MI := (yX10_slip, cX10_slip, 2, (some .int), 10, 0, sd_t_X10_slip)
set_option maxRecDepth 4000 in
theorem sd_i_X10_slip : sd_mL[167]? = some sd_q_X10_slip := rfl
def f_X10_slip_8 (k27 : sd_M → Option (Int × sd_M)) : Nat → Int → sd_M → Option (Int × sd_M)
  | 0, _, _ => none
  | n + 1, v1, M => if 58 ≤ v1 then (k27 M) else (if 0 ≤ v1 ∧ v1 < 58 then (f_X10_slip_8 k27 n (sd_w (v1 + 1)) (sd_s M 337 v1.toNat 0)) else none)
set_option maxRecDepth 4000 in
theorem t_X10_slip_8 {X : Nat → List sd_V → List sd_E → sd_A → Prop} {d : Nat} (hd : 12 ≤ d) (k27 : sd_M → Option (Int × sd_M)) (hk27 : ∀ (M : sd_M) (Rr : Int × sd_M), k27 M = some Rr → sd_B X d sd_q_X10_slip 27 [(0, .inr (.inr (some (331))))] [] M (some (.inl Rr.1), sd_rp Rr.2, 0, 0)) : ∀ (n : Nat) (v1 : Int) (M : sd_M) (Rr : Int × sd_M), f_X10_slip_8 k27 n v1 M = some Rr → sd_B X d sd_q_X10_slip 8 [(0, .inr (.inr (some (331)))), (1, .inl (v1))] [] M (some (.inl Rr.1), sd_rp Rr.2, 0, 0) := by
  intro n
  induction n with
  | zero => intro v1 M Rr h; cases h
  | succ n ih =>
    intro v1 M Rr h
    rw [f_X10_slip_8] at h
    refine sd_b_go 2 (pc2 := 11) (lv2 := [(0, .inr (.inr (some (331)))), (1, .inl (v1))]) (st2 := [.inl (58), .inl (v1)]) rfl ?_
    by_cases c1 : 58 ≤ v1
    · rw [if_pos c1] at h
      refine sd_b_ct (c := .ge) (tgt := 27) rfl (decide_eq_true c1) (by decide) ?_
      refine sd_b_wk [(0, .inr (.inr (some (331))))] (List.forall_mem_cons.mpr ⟨rfl, (fun _ h0 => absurd h0 List.not_mem_nil)⟩) ?_
      exact hk27 M _ h
    · rw [if_neg c1] at h
      refine sd_b_cf (c := .ge) rfl (decide_eq_false c1) (by decide) ?_
      refine sd_b_go 1 (pc2 := 15) (lv2 := [(0, .inr (.inr (some (331)))), (1, .inl (v1))]) (st2 := [.inr (.inr (some (331)))]) rfl ?_
      refine sd_b_gr (k := 7) sd_o_331 rfl rfl rfl ?_
      refine sd_b_go 2 (pc2 := 20) (lv2 := [(0, .inr (.inr (some (331)))), (1, .inl (v1))]) (st2 := [.inl (0), .inl (v1), .inr (.inr (some (337)))]) rfl ?_
      obtain ⟨g2, h⟩ := sd_if h
      refine sd_b_si (sd_oa sd_o_331 (by decide) (off := 6) (List.mem_of_getElem? (i := 5) rfl)) g2 rfl ?_
      refine sd_b_go 2 (pc2 := 8) (lv2 := [(1, .inl (sd_w (v1 + 1))), (0, .inr (.inr (some (331))))]) (st2 := []) rfl ?_
      refine sd_b_wk [(0, .inr (.inr (some (331)))), (1, .inl (sd_w (v1 + 1)))] (List.forall_mem_cons.mpr ⟨rfl, (List.forall_mem_cons.mpr ⟨rfl, (fun _ h0 => absurd h0 List.not_mem_nil)⟩)⟩) ?_
      exact ih (sd_w (v1 + 1)) (sd_s M 337 v1.toNat 0) _ h
def f_X10_slip_72 (k44 : Int → sd_M → Option (Int × sd_M)) (k79 : sd_M → Option (Int × sd_M)) (v1 : Int) (s0 : Int) (s1 : Int) (M : sd_M) : Option (Int × sd_M) := if 0 ≤ s1 ∧ s1 < 128 then (k44 (sd_w (v1 + 1)) (sd_s M 341 s1.toNat s0)) else none
set_option maxRecDepth 4000 in
theorem t_X10_slip_72 {X : Nat → List sd_V → List sd_E → sd_A → Prop} {d : Nat} (hd : 12 ≤ d) (k44 : Int → sd_M → Option (Int × sd_M)) (k79 : sd_M → Option (Int × sd_M)) (hk44 : ∀ (v1 : Int) (M : sd_M) (Rr : Int × sd_M), k44 v1 M = some Rr → sd_B X d sd_q_X10_slip 44 [(0, .inr (.inr (some (331)))), (1, .inl (v1))] [] M (some (.inl Rr.1), sd_rp Rr.2, 0, 0)) (hk79 : ∀ (M : sd_M) (Rr : Int × sd_M), k79 M = some Rr → sd_B X d sd_q_X10_slip 79 [(0, .inr (.inr (some (331))))] [] M (some (.inl Rr.1), sd_rp Rr.2, 0, 0)) (v1 : Int) (s0 : Int) (s1 : Int) (M : sd_M) (Rr : Int × sd_M) (h : f_X10_slip_72 k44 k79 v1 s0 s1 M = some Rr) : sd_B X d sd_q_X10_slip 72 [(0, .inr (.inr (some (331)))), (1, .inl (v1))] [.inl (s0), .inl (s1), .inr (.inr (some (341)))] M (some (.inl Rr.1), sd_rp Rr.2, 0, 0) := by
  unfold f_X10_slip_72 at h
  obtain ⟨g1, h⟩ := sd_if h
  refine sd_b_si (sd_oa sd_o_331 (by decide) (off := 10) (List.mem_of_getElem? (i := 9) rfl)) g1 rfl ?_
  refine sd_b_go 2 (pc2 := 44) (lv2 := [(1, .inl (sd_w (v1 + 1))), (0, .inr (.inr (some (331))))]) (st2 := []) rfl ?_
  refine sd_b_wk [(0, .inr (.inr (some (331)))), (1, .inl (sd_w (v1 + 1)))] (List.forall_mem_cons.mpr ⟨rfl, (List.forall_mem_cons.mpr ⟨rfl, (fun _ h0 => absurd h0 List.not_mem_nil)⟩)⟩) ?_
  exact hk44 (sd_w (v1 + 1)) (sd_s M 341 s1.toNat s0) _ h
def f_X10_slip_44 (k79 : sd_M → Option (Int × sd_M)) : Nat → Int → sd_M → Option (Int × sd_M)
  | 0, _, _ => none
  | n + 1, v1, M => if 128 ≤ v1 then (k79 M) else (if 58 ≤ v1 then (f_X10_slip_72 (f_X10_slip_44 k79 n) k79 v1 0 v1 M) else (if 0 ≤ v1 ∧ v1 < 58 then (f_X10_slip_72 (f_X10_slip_44 k79 n) k79 v1 (M 337 v1.toNat) v1 M) else none))
set_option maxRecDepth 4000 in
theorem t_X10_slip_44 {X : Nat → List sd_V → List sd_E → sd_A → Prop} {d : Nat} (hd : 12 ≤ d) (k79 : sd_M → Option (Int × sd_M)) (hk79 : ∀ (M : sd_M) (Rr : Int × sd_M), k79 M = some Rr → sd_B X d sd_q_X10_slip 79 [(0, .inr (.inr (some (331))))] [] M (some (.inl Rr.1), sd_rp Rr.2, 0, 0)) : ∀ (n : Nat) (v1 : Int) (M : sd_M) (Rr : Int × sd_M), f_X10_slip_44 k79 n v1 M = some Rr → sd_B X d sd_q_X10_slip 44 [(0, .inr (.inr (some (331)))), (1, .inl (v1))] [] M (some (.inl Rr.1), sd_rp Rr.2, 0, 0) := by
  intro n
  induction n with
  | zero => intro v1 M Rr h; cases h
  | succ n ih =>
    intro v1 M Rr h
    rw [f_X10_slip_44] at h
    refine sd_b_go 2 (pc2 := 48) (lv2 := [(0, .inr (.inr (some (331)))), (1, .inl (v1))]) (st2 := [.inl (128), .inl (v1)]) rfl ?_
    by_cases c1 : 128 ≤ v1
    · rw [if_pos c1] at h
      refine sd_b_ct (c := .ge) (tgt := 79) rfl (decide_eq_true c1) (by decide) ?_
      refine sd_b_wk [(0, .inr (.inr (some (331))))] (List.forall_mem_cons.mpr ⟨rfl, (fun _ h0 => absurd h0 List.not_mem_nil)⟩) ?_
      exact hk79 M _ h
    · rw [if_neg c1] at h
      refine sd_b_cf (c := .ge) rfl (decide_eq_false c1) (by decide) ?_
      refine sd_b_go 1 (pc2 := 52) (lv2 := [(0, .inr (.inr (some (331)))), (1, .inl (v1))]) (st2 := [.inr (.inr (some (331)))]) rfl ?_
      refine sd_b_gr (k := 20) sd_o_331 rfl rfl rfl ?_
      refine sd_b_go 3 (pc2 := 59) (lv2 := [(0, .inr (.inr (some (331)))), (1, .inl (v1))]) (st2 := [.inl (58), .inl (v1), .inl (v1), .inr (.inr (some (341)))]) rfl ?_
      by_cases c2 : 58 ≤ v1
      · rw [if_pos c2] at h
        refine sd_b_ct (c := .ge) (tgt := 71) rfl (decide_eq_true c2) (by decide) ?_
        refine sd_b_go 1 (pc2 := 72) (lv2 := [(0, .inr (.inr (some (331)))), (1, .inl (v1))]) (st2 := [.inl (0), .inl (v1), .inr (.inr (some (341)))]) rfl ?_
        refine sd_b_wk [(0, .inr (.inr (some (331)))), (1, .inl (v1))] (List.forall_mem_cons.mpr ⟨rfl, (List.forall_mem_cons.mpr ⟨rfl, (fun _ h0 => absurd h0 List.not_mem_nil)⟩)⟩) ?_
        exact t_X10_slip_72 hd (f_X10_slip_44 k79 n) k79 ih hk79 v1 0 v1 M _ h
      · rw [if_neg c2] at h
        refine sd_b_cf (c := .ge) rfl (decide_eq_false c2) (by decide) ?_
        refine sd_b_go 1 (pc2 := 63) (lv2 := [(0, .inr (.inr (some (331)))), (1, .inl (v1))]) (st2 := [.inr (.inr (some (331))), .inl (v1), .inr (.inr (some (341)))]) rfl ?_
        refine sd_b_gr (k := 7) sd_o_331 rfl rfl rfl ?_
        refine sd_b_go 1 (pc2 := 67) (lv2 := [(0, .inr (.inr (some (331)))), (1, .inl (v1))]) (st2 := [.inl (v1), .inr (.inr (some (337))), .inl (v1), .inr (.inr (some (341)))]) rfl ?_
        obtain ⟨g3, h⟩ := sd_if h
        refine sd_b_ai (sd_oa sd_o_331 (by decide) (off := 6) (List.mem_of_getElem? (i := 5) rfl)) g3 rfl ?_
        refine sd_b_go 1 (pc2 := 72) (lv2 := [(0, .inr (.inr (some (331)))), (1, .inl (v1))]) (st2 := [.inl (M 337 v1.toNat), .inl (v1), .inr (.inr (some (341)))]) rfl ?_
        refine sd_b_wk [(0, .inr (.inr (some (331)))), (1, .inl (v1))] (List.forall_mem_cons.mpr ⟨rfl, (List.forall_mem_cons.mpr ⟨rfl, (fun _ h0 => absurd h0 List.not_mem_nil)⟩)⟩) ?_
        exact t_X10_slip_72 hd (f_X10_slip_44 k79 n) k79 ih hk79 v1 (M 337 v1.toNat) v1 M _ h
def f_X10_slip_79 (M : sd_M) : Option (Int × sd_M) := (f_X10_begins M).bind fun r1 => some ((sd_s r1.2 331 27 0) 341 2, sd_s r1.2 331 27 0)
set_option maxRecDepth 4000 in
theorem t_X10_slip_79 {X : Nat → List sd_V → List sd_E → sd_A → Prop} {d : Nat} (hd : 12 ≤ d) (M : sd_M) (Rr : Int × sd_M) (h : f_X10_slip_79 M = some Rr) : sd_B X d sd_q_X10_slip 79 [(0, .inr (.inr (some (331))))] [] M (some (.inl Rr.1), sd_rp Rr.2, 0, 0) := by
  unfold f_X10_slip_79 at h
  refine sd_b_go 1 (pc2 := 80) (lv2 := [(0, .inr (.inr (some (331))))]) (st2 := [.inr (.inr (some (331)))]) rfl ?_
  obtain ⟨r1, e1, h⟩ := sd_bnd h
  refine sd_b_call [.inr (.inr (some (331)))] [] rfl rfl sd_i_X10_begins rfl rfl (Nat.le_of_ble_eq_true rfl) (sd_rc_v sd_o_331) (m_X10_begins (by omega) e1) ?_
  refine sd_b_go 2 (pc2 := 85) (lv2 := [(0, .inr (.inr (some (331))))]) (st2 := [.inl (0), .inr (.inr (some (331)))]) rfl ?_
  refine sd_b_pi (k := 27) sd_o_331 rfl rfl rfl rfl rfl ?_
  refine sd_b_go 1 (pc2 := 89) (lv2 := [(0, .inr (.inr (some (331))))]) (st2 := [.inr (.inr (some (331)))]) rfl ?_
  refine sd_b_gr (k := 20) sd_o_331 rfl rfl rfl ?_
  refine sd_b_go 1 (pc2 := 93) (lv2 := [(0, .inr (.inr (some (331))))]) (st2 := [.inl (2), .inr (.inr (some (341)))]) rfl ?_
  refine sd_b_ai (i := 2) (sd_oa sd_o_331 (by decide) (off := 10) (List.mem_of_getElem? (i := 9) rfl)) (by decide) rfl ?_
  cases h
  exact sd_b_rt rfl rfl rfl
def f_X10_slip_27 (M : sd_M) : Option (Int × sd_M) := (f_X10_readsAll M).bind fun r1 => if r1.1 = 0 then (some (sd_w (((-2)) - (r1.2 331 9)), r1.2)) else (f_X10_slip_44 (f_X10_slip_79) 4000 0 r1.2)
set_option maxRecDepth 4000 in
theorem t_X10_slip_27 {X : Nat → List sd_V → List sd_E → sd_A → Prop} {d : Nat} (hd : 12 ≤ d) (M : sd_M) (Rr : Int × sd_M) (h : f_X10_slip_27 M = some Rr) : sd_B X d sd_q_X10_slip 27 [(0, .inr (.inr (some (331))))] [] M (some (.inl Rr.1), sd_rp Rr.2, 0, 0) := by
  unfold f_X10_slip_27 at h
  refine sd_b_go 1 (pc2 := 28) (lv2 := [(0, .inr (.inr (some (331))))]) (st2 := [.inr (.inr (some (331)))]) rfl ?_
  obtain ⟨r1, e1, h⟩ := sd_bnd h
  refine sd_b_call [.inr (.inr (some (331)))] [] rfl rfl sd_i_X10_readsAll rfl rfl (Nat.le_of_ble_eq_true rfl) (sd_rc_v sd_o_331) (m_X10_readsAll (by omega) e1) ?_
  by_cases c2 : r1.1 = 0
  · rw [if_pos c2] at h
    refine sd_b_zf (c := .ne) rfl (decide_eq_false (not_not_intro c2)) (by decide) ?_
    refine sd_b_go 2 (pc2 := 37) (lv2 := [(0, .inr (.inr (some (331))))]) (st2 := [.inr (.inr (some (331))), .inl ((-2))]) rfl ?_
    refine sd_b_gi (k := 9) sd_o_331 rfl rfl rfl ?_
    refine sd_b_go 1 (pc2 := 41) (lv2 := [(0, .inr (.inr (some (331))))]) (st2 := [.inl (sd_w (((-2)) - (r1.2 331 9)))]) rfl ?_
    cases h
    exact sd_b_rt rfl rfl rfl
  · rw [if_neg c2] at h
    refine sd_b_zt (c := .ne) (tgt := 42) rfl (decide_eq_true c2) (by decide) ?_
    refine sd_b_go 2 (pc2 := 44) (lv2 := [(1, .inl (0)), (0, .inr (.inr (some (331))))]) (st2 := []) rfl ?_
    refine sd_b_wk [(0, .inr (.inr (some (331)))), (1, .inl (0))] (List.forall_mem_cons.mpr ⟨rfl, (List.forall_mem_cons.mpr ⟨rfl, (fun _ h0 => absurd h0 List.not_mem_nil)⟩)⟩) ?_
    exact t_X10_slip_44 hd (f_X10_slip_79) (t_X10_slip_79 hd) 4000 0 r1.2 _ h
def f_X10_slip (M : sd_M) : Option (Int × sd_M) := f_X10_slip_8 (f_X10_slip_27) 4000 0 (sd_s M 331 11 6)
set_option maxRecDepth 4000 in
theorem t_X10_slip {X : Nat → List sd_V → List sd_E → sd_A → Prop} {d : Nat} (hd : 12 ≤ d) (M : sd_M) (Rr : Int × sd_M) (h : f_X10_slip M = some Rr) : sd_B X d sd_q_X10_slip 0 [(0, .inr (.inr (some (331))))] [] M (some (.inl Rr.1), sd_rp Rr.2, 0, 0) := by
  unfold f_X10_slip at h
  refine sd_b_go 2 (pc2 := 3) (lv2 := [(0, .inr (.inr (some (331))))]) (st2 := [.inl (6), .inr (.inr (some (331)))]) rfl ?_
  refine sd_b_pi (k := 11) sd_o_331 rfl rfl rfl rfl rfl ?_
  refine sd_b_go 2 (pc2 := 8) (lv2 := [(1, .inl (0)), (0, .inr (.inr (some (331))))]) (st2 := []) rfl ?_
  refine sd_b_wk [(0, .inr (.inr (some (331)))), (1, .inl (0))] (List.forall_mem_cons.mpr ⟨rfl, (List.forall_mem_cons.mpr ⟨rfl, (fun _ h0 => absurd h0 List.not_mem_nil)⟩)⟩) ?_
  exact t_X10_slip_8 hd (f_X10_slip_27) (t_X10_slip_27 hd) 4000 0 (sd_s M 331 11 6) _ h
theorem m_X10_slip {X : Nat → List sd_V → List sd_E → sd_A → Prop} {d : Nat} (hd : 13 ≤ d) {M : sd_M} {Rr : Int × sd_M} (h : f_X10_slip M = some Rr) : sd_Cal X d 167 [.inr (.inr (some (331)))] (sd_rp M) (some (.inl Rr.1), sd_rp Rr.2, 0, 0) := by
  obtain ⟨d, rfl⟩ : ∃ d2, d = d2 + 1 := ⟨d - 1, by omega⟩
  exact sd_cal_of sd_i_X10_slip (Nat.le_of_ble_eq_true rfl) (t_X10_slip (by omega) M Rr h)
-- X0_sign
def sd_q_X0_sign : sd_MI := (yX0_sign, cX0_sign, 6, none, 0, 0, sd_t_X0_sign)
set_option maxRecDepth 4000 in
theorem sd_i_X0_sign : sd_mL[16]? = some sd_q_X0_sign := rfl
def f_X0_sign_117 (k17 : Int → Int → Int → Int → sd_M → Option (Int × sd_M)) (k123 : Int → Int → Int → sd_M → Option (Int × sd_M)) (this : Nat) (v1 : Int) (v2 : Int) (v3 : Int) (v4 : Int) (M : sd_M) : Option (Int × sd_M) := k17 v1 v2 v3 (sd_w (v4 + 1)) M
set_option maxRecDepth 4000 in
theorem t_X0_sign_117 {X : Nat → List sd_V → List sd_E → sd_A → Prop} {d : Nat} (hd : 2 ≤ d) (this : Nat) (h_this : sd_o this 0) (k17 : Int → Int → Int → Int → sd_M → Option (Int × sd_M)) (k123 : Int → Int → Int → sd_M → Option (Int × sd_M)) (hk17 : ∀ (v1 : Int) (v2 : Int) (v3 : Int) (v4 : Int) (M : sd_M) (Rr : Int × sd_M), k17 v1 v2 v3 v4 M = some Rr → sd_B X d sd_q_X0_sign 17 [(0, .inr (.inr (some (this)))), (1, .inl (v1)), (2, .inl (v2)), (3, .inl (v3)), (4, .inl (v4))] [] M (none, sd_rp Rr.2, 0, 0)) (hk123 : ∀ (v1 : Int) (v2 : Int) (v3 : Int) (M : sd_M) (Rr : Int × sd_M), k123 v1 v2 v3 M = some Rr → sd_B X d sd_q_X0_sign 123 [(0, .inr (.inr (some (this)))), (1, .inl (v1)), (2, .inl (v2)), (3, .inl (v3))] [] M (none, sd_rp Rr.2, 0, 0)) (v1 : Int) (v2 : Int) (v3 : Int) (v4 : Int) (M : sd_M) (Rr : Int × sd_M) (h : f_X0_sign_117 k17 k123 this v1 v2 v3 v4 M = some Rr) : sd_B X d sd_q_X0_sign 117 [(0, .inr (.inr (some (this)))), (1, .inl (v1)), (2, .inl (v2)), (3, .inl (v3)), (4, .inl (v4))] [] M (none, sd_rp Rr.2, 0, 0) := by
  unfold f_X0_sign_117 at h
  refine sd_b_go 2 (pc2 := 17) (lv2 := [(4, .inl (sd_w (v4 + 1))), (0, .inr (.inr (some (this)))), (1, .inl (v1)), (2, .inl (v2)), (3, .inl (v3))]) (st2 := []) rfl ?_
  refine sd_b_wk [(0, .inr (.inr (some (this)))), (1, .inl (v1)), (2, .inl (v2)), (3, .inl (v3)), (4, .inl (sd_w (v4 + 1)))] (List.forall_mem_cons.mpr ⟨rfl, (List.forall_mem_cons.mpr ⟨rfl, (List.forall_mem_cons.mpr ⟨rfl, (List.forall_mem_cons.mpr ⟨rfl, (List.forall_mem_cons.mpr ⟨rfl, (fun _ h0 => absurd h0 List.not_mem_nil)⟩)⟩)⟩)⟩)⟩) ?_
  exact hk17 v1 v2 v3 (sd_w (v4 + 1)) M _ h
def f_X0_sign_100 (k17 : Int → Int → Int → Int → sd_M → Option (Int × sd_M)) (k123 : Int → Int → Int → sd_M → Option (Int × sd_M)) (this : Nat) (v1 : Int) (v2 : Int) (v3 : Int) (v4 : Int) (v5 : Int) (M : sd_M) : Option (Int × sd_M) := if 0 ≤ v5 ∧ v5 < 9 then (f_X0_sign_117 k17 k123 this v1 (sd_or (v2) (sd_shl (1) (v5))) (sd_w (v3 + (M (this + 1) v5.toNat))) v4 M) else none
set_option maxRecDepth 4000 in
theorem t_X0_sign_100 {X : Nat → List sd_V → List sd_E → sd_A → Prop} {d : Nat} (hd : 2 ≤ d) (this : Nat) (h_this : sd_o this 0) (k17 : Int → Int → Int → Int → sd_M → Option (Int × sd_M)) (k123 : Int → Int → Int → sd_M → Option (Int × sd_M)) (hk17 : ∀ (v1 : Int) (v2 : Int) (v3 : Int) (v4 : Int) (M : sd_M) (Rr : Int × sd_M), k17 v1 v2 v3 v4 M = some Rr → sd_B X d sd_q_X0_sign 17 [(0, .inr (.inr (some (this)))), (1, .inl (v1)), (2, .inl (v2)), (3, .inl (v3)), (4, .inl (v4))] [] M (none, sd_rp Rr.2, 0, 0)) (hk123 : ∀ (v1 : Int) (v2 : Int) (v3 : Int) (M : sd_M) (Rr : Int × sd_M), k123 v1 v2 v3 M = some Rr → sd_B X d sd_q_X0_sign 123 [(0, .inr (.inr (some (this)))), (1, .inl (v1)), (2, .inl (v2)), (3, .inl (v3))] [] M (none, sd_rp Rr.2, 0, 0)) (v1 : Int) (v2 : Int) (v3 : Int) (v4 : Int) (v5 : Int) (M : sd_M) (Rr : Int × sd_M) (h : f_X0_sign_100 k17 k123 this v1 v2 v3 v4 v5 M = some Rr) : sd_B X d sd_q_X0_sign 100 [(0, .inr (.inr (some (this)))), (1, .inl (v1)), (2, .inl (v2)), (3, .inl (v3)), (4, .inl (v4)), (5, .inl (v5))] [] M (none, sd_rp Rr.2, 0, 0) := by
  unfold f_X0_sign_100 at h
  refine sd_b_go 8 (pc2 := 109) (lv2 := [(2, .inl (sd_or (v2) (sd_shl (1) (v5)))), (0, .inr (.inr (some (this)))), (1, .inl (v1)), (3, .inl (v3)), (4, .inl (v4)), (5, .inl (v5))]) (st2 := [.inr (.inr (some (this))), .inl (v3)]) rfl ?_
  refine sd_b_gr (k := 5) h_this rfl rfl rfl ?_
  refine sd_b_go 1 (pc2 := 114) (lv2 := [(2, .inl (sd_or (v2) (sd_shl (1) (v5)))), (0, .inr (.inr (some (this)))), (1, .inl (v1)), (3, .inl (v3)), (4, .inl (v4)), (5, .inl (v5))]) (st2 := [.inl (v5), .inr (.inr (some (this + 1))), .inl (v3)]) rfl ?_
  obtain ⟨g1, h⟩ := sd_if h
  refine sd_b_ai (sd_oa h_this (by decide) (off := 1) (List.mem_of_getElem? (i := 0) rfl)) g1 rfl ?_
  refine sd_b_go 2 (pc2 := 117) (lv2 := [(3, .inl (sd_w (v3 + (M (this + 1) v5.toNat)))), (2, .inl (sd_or (v2) (sd_shl (1) (v5)))), (0, .inr (.inr (some (this)))), (1, .inl (v1)), (4, .inl (v4)), (5, .inl (v5))]) (st2 := []) rfl ?_
  refine sd_b_wk [(0, .inr (.inr (some (this)))), (1, .inl (v1)), (2, .inl (sd_or (v2) (sd_shl (1) (v5)))), (3, .inl (sd_w (v3 + (M (this + 1) v5.toNat)))), (4, .inl (v4))] (List.forall_mem_cons.mpr ⟨rfl, (List.forall_mem_cons.mpr ⟨rfl, (List.forall_mem_cons.mpr ⟨rfl, (List.forall_mem_cons.mpr ⟨rfl, (List.forall_mem_cons.mpr ⟨rfl, (fun _ h0 => absurd h0 List.not_mem_nil)⟩)⟩)⟩)⟩)⟩) ?_
  exact t_X0_sign_117 hd this h_this k17 k123 hk17 hk123 v1 (sd_or (v2) (sd_shl (1) (v5))) (sd_w (v3 + (M (this + 1) v5.toNat))) v4 M _ h
def f_X0_sign_17 (k123 : Int → Int → Int → sd_M → Option (Int × sd_M)) (this : Nat) : Nat → Int → Int → Int → Int → sd_M → Option (Int × sd_M)
  | 0, _, _, _, _, _ => none
  | n + 1, v1, v2, v3, v4, M => if (M this 3) ≤ v4 then (k123 v1 v2 v3 M) else (if 0 ≤ v4 ∧ v4 < 9 then (if 0 ≤ (M (this + 6) v4.toNat) ∧ (M (this + 6) v4.toNat) < 9 then (if 0 ≤ (M (this + 6) v4.toNat) ∧ (M (this + 6) v4.toNat) < 9 then (if ((sd_s M this 2 (sd_w ((M this 2) + (M (this + 1) (M (this + 6) v4.toNat).toNat)))) (this + 2) (M (this + 6) v4.toNat).toNat) = 1 then (if 0 ≤ (M (this + 6) v4.toNat) ∧ (M (this + 6) v4.toNat) < 9 then (if v1 < ((sd_s M this 2 (sd_w ((M this 2) + (M (this + 1) (M (this + 6) v4.toNat).toNat)))) (this + 1) (M (this + 6) v4.toNat).toNat) then (f_X0_sign_100 (f_X0_sign_17 k123 this n) k123 this v1 v2 v3 v4 (M (this + 6) v4.toNat) (sd_s M this 2 (sd_w ((M this 2) + (M (this + 1) (M (this + 6) v4.toNat).toNat))))) else (if 0 ≤ (M (this + 6) v4.toNat) ∧ (M (this + 6) v4.toNat) < 9 then (if 0 ≤ (M (this + 6) v4.toNat) ∧ (M (this + 6) v4.toNat) < 9 then (if 0 ≤ (M (this + 6) v4.toNat) ∧ (M (this + 6) v4.toNat) < 9 then (f_X0_sign_117 (f_X0_sign_17 k123 this n) k123 this (sd_w (v1 - ((sd_s (sd_s M this 2 (sd_w ((M this 2) + (M (this + 1) (M (this + 6) v4.toNat).toNat)))) (this + 4) (M (this + 6) v4.toNat).toNat ((sd_s M this 2 (sd_w ((M this 2) + (M (this + 1) (M (this + 6) v4.toNat).toNat)))) (this + 1) (M (this + 6) v4.toNat).toNat)) (this + 1) (M (this + 6) v4.toNat).toNat))) v2 v3 v4 (sd_s (sd_s M this 2 (sd_w ((M this 2) + (M (this + 1) (M (this + 6) v4.toNat).toNat)))) (this + 4) (M (this + 6) v4.toNat).toNat ((sd_s M this 2 (sd_w ((M this 2) + (M (this + 1) (M (this + 6) v4.toNat).toNat)))) (this + 1) (M (this + 6) v4.toNat).toNat))) else none) else none) else none)) else none) else (f_X0_sign_100 (f_X0_sign_17 k123 this n) k123 this v1 v2 v3 v4 (M (this + 6) v4.toNat) (sd_s M this 2 (sd_w ((M this 2) + (M (this + 1) (M (this + 6) v4.toNat).toNat)))))) else none) else none) else none)
set_option maxRecDepth 4000 in
theorem t_X0_sign_17 {X : Nat → List sd_V → List sd_E → sd_A → Prop} {d : Nat} (hd : 2 ≤ d) (this : Nat) (h_this : sd_o this 0) (k123 : Int → Int → Int → sd_M → Option (Int × sd_M)) (hk123 : ∀ (v1 : Int) (v2 : Int) (v3 : Int) (M : sd_M) (Rr : Int × sd_M), k123 v1 v2 v3 M = some Rr → sd_B X d sd_q_X0_sign 123 [(0, .inr (.inr (some (this)))), (1, .inl (v1)), (2, .inl (v2)), (3, .inl (v3))] [] M (none, sd_rp Rr.2, 0, 0)) : ∀ (n : Nat) (v1 : Int) (v2 : Int) (v3 : Int) (v4 : Int) (M : sd_M) (Rr : Int × sd_M), f_X0_sign_17 k123 this n v1 v2 v3 v4 M = some Rr → sd_B X d sd_q_X0_sign 17 [(0, .inr (.inr (some (this)))), (1, .inl (v1)), (2, .inl (v2)), (3, .inl (v3)), (4, .inl (v4))] [] M (none, sd_rp Rr.2, 0, 0) := by
  intro n
  induction n with
  | zero => intro v1 v2 v3 v4 M Rr h; cases h
  | succ n ih =>
    intro v1 v2 v3 v4 M Rr h
    rw [f_X0_sign_17] at h
    refine sd_b_go 2 (pc2 := 20) (lv2 := [(0, .inr (.inr (some (this)))), (1, .inl (v1)), (2, .inl (v2)), (3, .inl (v3)), (4, .inl (v4))]) (st2 := [.inr (.inr (some (this))), .inl (v4)]) rfl ?_
    refine sd_b_gi (k := 3) h_this rfl rfl rfl ?_
    by_cases c1 : (M this 3) ≤ v4
    · rw [if_pos c1] at h
      refine sd_b_ct (c := .ge) (tgt := 123) rfl (decide_eq_true c1) (by decide) ?_
      refine sd_b_wk [(0, .inr (.inr (some (this)))), (1, .inl (v1)), (2, .inl (v2)), (3, .inl (v3))] (List.forall_mem_cons.mpr ⟨rfl, (List.forall_mem_cons.mpr ⟨rfl, (List.forall_mem_cons.mpr ⟨rfl, (List.forall_mem_cons.mpr ⟨rfl, (fun _ h0 => absurd h0 List.not_mem_nil)⟩)⟩)⟩)⟩) ?_
      exact hk123 v1 v2 v3 M _ h
    · rw [if_neg c1] at h
      refine sd_b_cf (c := .ge) rfl (decide_eq_false c1) (by decide) ?_
      refine sd_b_go 1 (pc2 := 27) (lv2 := [(0, .inr (.inr (some (this)))), (1, .inl (v1)), (2, .inl (v2)), (3, .inl (v3)), (4, .inl (v4))]) (st2 := [.inr (.inr (some (this)))]) rfl ?_
      refine sd_b_gr (k := 10) h_this rfl rfl rfl ?_
      refine sd_b_go 1 (pc2 := 32) (lv2 := [(0, .inr (.inr (some (this)))), (1, .inl (v1)), (2, .inl (v2)), (3, .inl (v3)), (4, .inl (v4))]) (st2 := [.inl (v4), .inr (.inr (some (this + 6)))]) rfl ?_
      obtain ⟨g2, h⟩ := sd_if h
      refine sd_b_ai (sd_oa h_this (by decide) (off := 6) (List.mem_of_getElem? (i := 5) rfl)) g2 rfl ?_
      refine sd_b_go 3 (pc2 := 37) (lv2 := [(5, .inl (M (this + 6) v4.toNat)), (0, .inr (.inr (some (this)))), (1, .inl (v1)), (2, .inl (v2)), (3, .inl (v3)), (4, .inl (v4))]) (st2 := [.inr (.inr (some (this))), .inr (.inr (some (this)))]) rfl ?_
      refine sd_b_gi (k := 2) h_this rfl rfl rfl ?_
      refine sd_b_go 1 (pc2 := 41) (lv2 := [(5, .inl (M (this + 6) v4.toNat)), (0, .inr (.inr (some (this)))), (1, .inl (v1)), (2, .inl (v2)), (3, .inl (v3)), (4, .inl (v4))]) (st2 := [.inr (.inr (some (this))), .inl (M this 2), .inr (.inr (some (this)))]) rfl ?_
      refine sd_b_gr (k := 5) h_this rfl rfl rfl ?_
      refine sd_b_go 1 (pc2 := 46) (lv2 := [(5, .inl (M (this + 6) v4.toNat)), (0, .inr (.inr (some (this)))), (1, .inl (v1)), (2, .inl (v2)), (3, .inl (v3)), (4, .inl (v4))]) (st2 := [.inl (M (this + 6) v4.toNat), .inr (.inr (some (this + 1))), .inl (M this 2), .inr (.inr (some (this)))]) rfl ?_
      obtain ⟨g3, h⟩ := sd_if h
      refine sd_b_ai (sd_oa h_this (by decide) (off := 1) (List.mem_of_getElem? (i := 0) rfl)) g3 rfl ?_
      refine sd_b_go 1 (pc2 := 48) (lv2 := [(5, .inl (M (this + 6) v4.toNat)), (0, .inr (.inr (some (this)))), (1, .inl (v1)), (2, .inl (v2)), (3, .inl (v3)), (4, .inl (v4))]) (st2 := [.inl (sd_w ((M this 2) + (M (this + 1) (M (this + 6) v4.toNat).toNat))), .inr (.inr (some (this)))]) rfl ?_
      refine sd_b_pi (k := 2) h_this rfl rfl rfl rfl rfl ?_
      refine sd_b_go 1 (pc2 := 52) (lv2 := [(5, .inl (M (this + 6) v4.toNat)), (0, .inr (.inr (some (this)))), (1, .inl (v1)), (2, .inl (v2)), (3, .inl (v3)), (4, .inl (v4))]) (st2 := [.inr (.inr (some (this)))]) rfl ?_
      refine sd_b_gr (k := 6) h_this rfl rfl rfl ?_
      refine sd_b_go 1 (pc2 := 57) (lv2 := [(5, .inl (M (this + 6) v4.toNat)), (0, .inr (.inr (some (this)))), (1, .inl (v1)), (2, .inl (v2)), (3, .inl (v3)), (4, .inl (v4))]) (st2 := [.inl (M (this + 6) v4.toNat), .inr (.inr (some (this + 2)))]) rfl ?_
      obtain ⟨g4, h⟩ := sd_if h
      refine sd_b_ai (sd_oa h_this (by decide) (off := 2) (List.mem_of_getElem? (i := 1) rfl)) g4 rfl ?_
      refine sd_b_go 1 (pc2 := 59) (lv2 := [(5, .inl (M (this + 6) v4.toNat)), (0, .inr (.inr (some (this)))), (1, .inl (v1)), (2, .inl (v2)), (3, .inl (v3)), (4, .inl (v4))]) (st2 := [.inl (1), .inl ((sd_s M this 2 (sd_w ((M this 2) + (M (this + 1) (M (this + 6) v4.toNat).toNat)))) (this + 2) (M (this + 6) v4.toNat).toNat)]) rfl ?_
      by_cases c5 : ((sd_s M this 2 (sd_w ((M this 2) + (M (this + 1) (M (this + 6) v4.toNat).toNat)))) (this + 2) (M (this + 6) v4.toNat).toNat) = 1
      · rw [if_pos c5] at h
        refine sd_b_cf (c := .ne) rfl (decide_eq_false (not_not_intro c5)) (by decide) ?_
        refine sd_b_go 1 (pc2 := 63) (lv2 := [(5, .inl (M (this + 6) v4.toNat)), (0, .inr (.inr (some (this)))), (1, .inl (v1)), (2, .inl (v2)), (3, .inl (v3)), (4, .inl (v4))]) (st2 := [.inr (.inr (some (this)))]) rfl ?_
        refine sd_b_gr (k := 5) h_this rfl rfl rfl ?_
        refine sd_b_go 1 (pc2 := 68) (lv2 := [(5, .inl (M (this + 6) v4.toNat)), (0, .inr (.inr (some (this)))), (1, .inl (v1)), (2, .inl (v2)), (3, .inl (v3)), (4, .inl (v4))]) (st2 := [.inl (M (this + 6) v4.toNat), .inr (.inr (some (this + 1)))]) rfl ?_
        obtain ⟨g6, h⟩ := sd_if h
        refine sd_b_ai (sd_oa h_this (by decide) (off := 1) (List.mem_of_getElem? (i := 0) rfl)) g6 rfl ?_
        refine sd_b_go 1 (pc2 := 70) (lv2 := [(5, .inl (M (this + 6) v4.toNat)), (0, .inr (.inr (some (this)))), (1, .inl (v1)), (2, .inl (v2)), (3, .inl (v3)), (4, .inl (v4))]) (st2 := [.inl (v1), .inl ((sd_s M this 2 (sd_w ((M this 2) + (M (this + 1) (M (this + 6) v4.toNat).toNat)))) (this + 1) (M (this + 6) v4.toNat).toNat)]) rfl ?_
        by_cases c7 : v1 < ((sd_s M this 2 (sd_w ((M this 2) + (M (this + 1) (M (this + 6) v4.toNat).toNat)))) (this + 1) (M (this + 6) v4.toNat).toNat)
        · rw [if_pos c7] at h
          refine sd_b_ct (c := .gt) (tgt := 100) rfl (decide_eq_true c7) (by decide) ?_
          refine sd_b_wk [(0, .inr (.inr (some (this)))), (1, .inl (v1)), (2, .inl (v2)), (3, .inl (v3)), (4, .inl (v4)), (5, .inl (M (this + 6) v4.toNat))] (List.forall_mem_cons.mpr ⟨rfl, (List.forall_mem_cons.mpr ⟨rfl, (List.forall_mem_cons.mpr ⟨rfl, (List.forall_mem_cons.mpr ⟨rfl, (List.forall_mem_cons.mpr ⟨rfl, (List.forall_mem_cons.mpr ⟨rfl, (fun _ h0 => absurd h0 List.not_mem_nil)⟩)⟩)⟩)⟩)⟩)⟩) ?_
          exact t_X0_sign_100 hd this h_this (f_X0_sign_17 k123 this n) k123 ih hk123 v1 v2 v3 v4 (M (this + 6) v4.toNat) (sd_s M this 2 (sd_w ((M this 2) + (M (this + 1) (M (this + 6) v4.toNat).toNat)))) _ h
        · rw [if_neg c7] at h
          refine sd_b_cf (c := .gt) rfl (decide_eq_false c7) (by decide) ?_
          refine sd_b_go 1 (pc2 := 74) (lv2 := [(5, .inl (M (this + 6) v4.toNat)), (0, .inr (.inr (some (this)))), (1, .inl (v1)), (2, .inl (v2)), (3, .inl (v3)), (4, .inl (v4))]) (st2 := [.inr (.inr (some (this)))]) rfl ?_
          refine sd_b_gr (k := 8) h_this rfl rfl rfl ?_
          refine sd_b_go 2 (pc2 := 80) (lv2 := [(5, .inl (M (this + 6) v4.toNat)), (0, .inr (.inr (some (this)))), (1, .inl (v1)), (2, .inl (v2)), (3, .inl (v3)), (4, .inl (v4))]) (st2 := [.inr (.inr (some (this))), .inl (M (this + 6) v4.toNat), .inr (.inr (some (this + 4)))]) rfl ?_
          refine sd_b_gr (k := 5) h_this rfl rfl rfl ?_
          refine sd_b_go 1 (pc2 := 85) (lv2 := [(5, .inl (M (this + 6) v4.toNat)), (0, .inr (.inr (some (this)))), (1, .inl (v1)), (2, .inl (v2)), (3, .inl (v3)), (4, .inl (v4))]) (st2 := [.inl (M (this + 6) v4.toNat), .inr (.inr (some (this + 1))), .inl (M (this + 6) v4.toNat), .inr (.inr (some (this + 4)))]) rfl ?_
          obtain ⟨g8, h⟩ := sd_if h
          refine sd_b_ai (sd_oa h_this (by decide) (off := 1) (List.mem_of_getElem? (i := 0) rfl)) g8 rfl ?_
          obtain ⟨g9, h⟩ := sd_if h
          refine sd_b_si (sd_oa h_this (by decide) (off := 4) (List.mem_of_getElem? (i := 3) rfl)) g9 rfl ?_
          refine sd_b_go 2 (pc2 := 89) (lv2 := [(5, .inl (M (this + 6) v4.toNat)), (0, .inr (.inr (some (this)))), (1, .inl (v1)), (2, .inl (v2)), (3, .inl (v3)), (4, .inl (v4))]) (st2 := [.inr (.inr (some (this))), .inl (v1)]) rfl ?_
          refine sd_b_gr (k := 5) h_this rfl rfl rfl ?_
          refine sd_b_go 1 (pc2 := 94) (lv2 := [(5, .inl (M (this + 6) v4.toNat)), (0, .inr (.inr (some (this)))), (1, .inl (v1)), (2, .inl (v2)), (3, .inl (v3)), (4, .inl (v4))]) (st2 := [.inl (M (this + 6) v4.toNat), .inr (.inr (some (this + 1))), .inl (v1)]) rfl ?_
          obtain ⟨g10, h⟩ := sd_if h
          refine sd_b_ai (sd_oa h_this (by decide) (off := 1) (List.mem_of_getElem? (i := 0) rfl)) g10 rfl ?_
          refine sd_b_go 3 (pc2 := 117) (lv2 := [(1, .inl (sd_w (v1 - ((sd_s (sd_s M this 2 (sd_w ((M this 2) + (M (this + 1) (M (this + 6) v4.toNat).toNat)))) (this + 4) (M (this + 6) v4.toNat).toNat ((sd_s M this 2 (sd_w ((M this 2) + (M (this + 1) (M (this + 6) v4.toNat).toNat)))) (this + 1) (M (this + 6) v4.toNat).toNat)) (this + 1) (M (this + 6) v4.toNat).toNat)))), (5, .inl (M (this + 6) v4.toNat)), (0, .inr (.inr (some (this)))), (2, .inl (v2)), (3, .inl (v3)), (4, .inl (v4))]) (st2 := []) rfl ?_
          refine sd_b_wk [(0, .inr (.inr (some (this)))), (1, .inl (sd_w (v1 - ((sd_s (sd_s M this 2 (sd_w ((M this 2) + (M (this + 1) (M (this + 6) v4.toNat).toNat)))) (this + 4) (M (this + 6) v4.toNat).toNat ((sd_s M this 2 (sd_w ((M this 2) + (M (this + 1) (M (this + 6) v4.toNat).toNat)))) (this + 1) (M (this + 6) v4.toNat).toNat)) (this + 1) (M (this + 6) v4.toNat).toNat)))), (2, .inl (v2)), (3, .inl (v3)), (4, .inl (v4))] (List.forall_mem_cons.mpr ⟨rfl, (List.forall_mem_cons.mpr ⟨rfl, (List.forall_mem_cons.mpr ⟨rfl, (List.forall_mem_cons.mpr ⟨rfl, (List.forall_mem_cons.mpr ⟨rfl, (fun _ h0 => absurd h0 List.not_mem_nil)⟩)⟩)⟩)⟩)⟩) ?_
          exact t_X0_sign_117 hd this h_this (f_X0_sign_17 k123 this n) k123 ih hk123 (sd_w (v1 - ((sd_s (sd_s M this 2 (sd_w ((M this 2) + (M (this + 1) (M (this + 6) v4.toNat).toNat)))) (this + 4) (M (this + 6) v4.toNat).toNat ((sd_s M this 2 (sd_w ((M this 2) + (M (this + 1) (M (this + 6) v4.toNat).toNat)))) (this + 1) (M (this + 6) v4.toNat).toNat)) (this + 1) (M (this + 6) v4.toNat).toNat))) v2 v3 v4 (sd_s (sd_s M this 2 (sd_w ((M this 2) + (M (this + 1) (M (this + 6) v4.toNat).toNat)))) (this + 4) (M (this + 6) v4.toNat).toNat ((sd_s M this 2 (sd_w ((M this 2) + (M (this + 1) (M (this + 6) v4.toNat).toNat)))) (this + 1) (M (this + 6) v4.toNat).toNat)) _ h
      · rw [if_neg c5] at h
        refine sd_b_ct (c := .ne) (tgt := 100) rfl (decide_eq_true c5) (by decide) ?_
        refine sd_b_wk [(0, .inr (.inr (some (this)))), (1, .inl (v1)), (2, .inl (v2)), (3, .inl (v3)), (4, .inl (v4)), (5, .inl (M (this + 6) v4.toNat))] (List.forall_mem_cons.mpr ⟨rfl, (List.forall_mem_cons.mpr ⟨rfl, (List.forall_mem_cons.mpr ⟨rfl, (List.forall_mem_cons.mpr ⟨rfl, (List.forall_mem_cons.mpr ⟨rfl, (List.forall_mem_cons.mpr ⟨rfl, (fun _ h0 => absurd h0 List.not_mem_nil)⟩)⟩)⟩)⟩)⟩)⟩) ?_
        exact t_X0_sign_100 hd this h_this (f_X0_sign_17 k123 this n) k123 ih hk123 v1 v2 v3 v4 (M (this + 6) v4.toNat) (sd_s M this 2 (sd_w ((M this 2) + (M (this + 1) (M (this + 6) v4.toNat).toNat)))) _ h
def f_X0_sign_123 (this : Nat) (v1 : Int) (v2 : Int) (v3 : Int) (M : sd_M) : Option (Int × sd_M) := (f_X0_partAmong this (this + 1) (this + 4) v2 (if v3 < v1 then v3 else v1) M).bind fun r1 => some (0, r1.2)
set_option maxRecDepth 4000 in
theorem t_X0_sign_123 {X : Nat → List sd_V → List sd_E → sd_A → Prop} {d : Nat} (hd : 2 ≤ d) (this : Nat) (h_this : sd_o this 0) (v1 : Int) (v2 : Int) (v3 : Int) (M : sd_M) (Rr : Int × sd_M) (h : f_X0_sign_123 this v1 v2 v3 M = some Rr) : sd_B X d sd_q_X0_sign 123 [(0, .inr (.inr (some (this)))), (1, .inl (v1)), (2, .inl (v2)), (3, .inl (v3))] [] M (none, sd_rp Rr.2, 0, 0) := by
  unfold f_X0_sign_123 at h
  refine sd_b_go 4 (pc2 := 127) (lv2 := [(0, .inr (.inr (some (this)))), (1, .inl (v1)), (2, .inl (v2)), (3, .inl (v3))]) (st2 := [.inl (v3), .inl (v1), .inl (v2), .inr (.inr (some (this)))]) rfl ?_
  refine sd_b_go 2 (pc2 := 131) (lv2 := [(0, .inr (.inr (some (this)))), (1, .inl (v1)), (2, .inl (v2)), (3, .inl (v3))]) (st2 := [.inr (.inr (some (this))), .inl (if v3 < v1 then v3 else v1), .inl (v2), .inr (.inr (some (this)))]) rfl ?_
  refine sd_b_gr (k := 5) h_this rfl rfl rfl ?_
  refine sd_b_go 1 (pc2 := 135) (lv2 := [(0, .inr (.inr (some (this)))), (1, .inl (v1)), (2, .inl (v2)), (3, .inl (v3))]) (st2 := [.inr (.inr (some (this))), .inr (.inr (some (this + 1))), .inl (if v3 < v1 then v3 else v1), .inl (v2), .inr (.inr (some (this)))]) rfl ?_
  refine sd_b_gr (k := 8) h_this rfl rfl rfl ?_
  obtain ⟨r1, e1, h⟩ := sd_bnd h
  refine sd_b_call [.inr (.inr (some (this))), .inl (v2), .inl (if v3 < v1 then v3 else v1), .inr (.inr (some (this + 1))), .inr (.inr (some (this + 4)))] [] rfl rfl sd_i_X0_partAmong rfl rfl (Nat.le_of_ble_eq_true rfl) (sd_rc_v h_this) (m_X0_partAmong (by omega) h_this (sd_oa h_this (by decide) (off := 1) (List.mem_of_getElem? (i := 0) rfl)) (sd_oa h_this (by decide) (off := 4) (List.mem_of_getElem? (i := 3) rfl)) e1) ?_
  cases h
  exact sd_b_rt rfl rfl rfl
def f_X0_sign (this : Nat) (M : sd_M) : Option (Int × sd_M) := f_X0_sign_17 (f_X0_sign_123 this) this 4000 (M this 0) 0 0 0 (sd_s M this 2 0)
set_option maxRecDepth 4000 in
theorem t_X0_sign {X : Nat → List sd_V → List sd_E → sd_A → Prop} {d : Nat} (hd : 2 ≤ d) (this : Nat) (h_this : sd_o this 0) (M : sd_M) (Rr : Int × sd_M) (h : f_X0_sign this M = some Rr) : sd_B X d sd_q_X0_sign 0 [(0, .inr (.inr (some (this))))] [] M (none, sd_rp Rr.2, 0, 0) := by
  unfold f_X0_sign at h
  refine sd_b_go 1 (pc2 := 1) (lv2 := [(0, .inr (.inr (some (this))))]) (st2 := [.inr (.inr (some (this)))]) rfl ?_
  refine sd_b_gi (k := 0) h_this rfl rfl rfl ?_
  refine sd_b_go 7 (pc2 := 11) (lv2 := [(3, .inl (0)), (2, .inl (0)), (1, .inl (M this 0)), (0, .inr (.inr (some (this))))]) (st2 := [.inl (0), .inr (.inr (some (this)))]) rfl ?_
  refine sd_b_pi (k := 2) h_this rfl rfl rfl rfl rfl ?_
  refine sd_b_go 2 (pc2 := 17) (lv2 := [(4, .inl (0)), (3, .inl (0)), (2, .inl (0)), (1, .inl (M this 0)), (0, .inr (.inr (some (this))))]) (st2 := []) rfl ?_
  refine sd_b_wk [(0, .inr (.inr (some (this)))), (1, .inl (M this 0)), (2, .inl (0)), (3, .inl (0)), (4, .inl (0))] (List.forall_mem_cons.mpr ⟨rfl, (List.forall_mem_cons.mpr ⟨rfl, (List.forall_mem_cons.mpr ⟨rfl, (List.forall_mem_cons.mpr ⟨rfl, (List.forall_mem_cons.mpr ⟨rfl, (fun _ h0 => absurd h0 List.not_mem_nil)⟩)⟩)⟩)⟩)⟩) ?_
  exact t_X0_sign_17 hd this h_this (f_X0_sign_123 this) (t_X0_sign_123 hd this h_this) 4000 (M this 0) 0 0 0 (sd_s M this 2 0) _ h
theorem m_X0_sign {X : Nat → List sd_V → List sd_E → sd_A → Prop} {d : Nat} (hd : 3 ≤ d) {this : Nat} (h_this : sd_o this 0) {M : sd_M} {Rr : Int × sd_M} (h : f_X0_sign this M = some Rr) : sd_Cal X d 16 [.inr (.inr (some (this)))] (sd_rp M) (none, sd_rp Rr.2, 0, 0) := by
  obtain ⟨d, rfl⟩ : ∃ d2, d = d2 + 1 := ⟨d - 1, by omega⟩
  exact sd_cal_of sd_i_X0_sign (Nat.le_of_ble_eq_true rfl) (t_X0_sign (by omega) this h_this M Rr h)
-- X0_partPence
def sd_q_X0_partPence : sd_MI := (yX0_partPence, cX0_partPence, 3, none, 0, 2, sd_t_X0_partPence)
set_option maxRecDepth 4000 in
theorem sd_i_X0_partPence : sd_mL[17]? = some sd_q_X0_partPence := rfl
def f_X0_partPence (this : Nat) (arr0 : Nat) (p1 : Int) (M : sd_M) : Option (Int × sd_M) := (f_X0_lineBits this M).bind fun r1 => (f_X0_partAmong this (this + 4) arr0 r1.1 p1 r1.2).bind fun r2 => some (0, r2.2)
set_option maxRecDepth 4000 in
theorem t_X0_partPence {X : Nat → List sd_V → List sd_E → sd_A → Prop} {d : Nat} (hd : 2 ≤ d) (this : Nat) (arr0 : Nat) (h_this : sd_o this 0) (h_arr0 : sd_a arr0 0 9) (p1 : Int) (M : sd_M) (Rr : Int × sd_M) (h : f_X0_partPence this arr0 p1 M = some Rr) : sd_B X d sd_q_X0_partPence 0 [(0, .inr (.inr (some (this)))), (1, .inl (p1)), (2, .inr (.inr (some (arr0))))] [] M (none, sd_rp Rr.2, 0, 0) := by
  unfold f_X0_partPence at h
  refine sd_b_go 2 (pc2 := 2) (lv2 := [(0, .inr (.inr (some (this)))), (1, .inl (p1)), (2, .inr (.inr (some (arr0))))]) (st2 := [.inr (.inr (some (this))), .inr (.inr (some (this)))]) rfl ?_
  obtain ⟨r1, e1, h⟩ := sd_bnd h
  refine sd_b_call [.inr (.inr (some (this)))] [.inr (.inr (some (this)))] rfl rfl sd_i_X0_lineBits rfl rfl (Nat.le_of_ble_eq_true rfl) (sd_rc_v h_this) (m_X0_lineBits (by omega) h_this e1) ?_
  refine sd_b_go 2 (pc2 := 7) (lv2 := [(0, .inr (.inr (some (this)))), (1, .inl (p1)), (2, .inr (.inr (some (arr0))))]) (st2 := [.inr (.inr (some (this))), .inl (p1), .inl (r1.1), .inr (.inr (some (this)))]) rfl ?_
  refine sd_b_gr (k := 8) h_this rfl rfl rfl ?_
  refine sd_b_go 1 (pc2 := 11) (lv2 := [(0, .inr (.inr (some (this)))), (1, .inl (p1)), (2, .inr (.inr (some (arr0))))]) (st2 := [.inr (.inr (some (arr0))), .inr (.inr (some (this + 4))), .inl (p1), .inl (r1.1), .inr (.inr (some (this)))]) rfl ?_
  obtain ⟨r2, e2, h⟩ := sd_bnd h
  refine sd_b_call [.inr (.inr (some (this))), .inl (r1.1), .inl (p1), .inr (.inr (some (this + 4))), .inr (.inr (some (arr0)))] [] rfl rfl sd_i_X0_partAmong rfl rfl (Nat.le_of_ble_eq_true rfl) (sd_rc_v h_this) (m_X0_partAmong (by omega) h_this (sd_oa h_this (by decide) (off := 4) (List.mem_of_getElem? (i := 3) rfl)) h_arr0 e2) ?_
  cases h
  exact sd_b_rt rfl rfl rfl
theorem m_X0_partPence {X : Nat → List sd_V → List sd_E → sd_A → Prop} {d : Nat} (hd : 3 ≤ d) {this : Nat} {arr0 : Nat} (h_this : sd_o this 0) (h_arr0 : sd_a arr0 0 9) {p1 : Int} {M : sd_M} {Rr : Int × sd_M} (h : f_X0_partPence this arr0 p1 M = some Rr) : sd_Cal X d 17 [.inr (.inr (some (this))), .inl (p1), .inr (.inr (some (arr0)))] (sd_rp M) (none, sd_rp Rr.2, 0, 0) := by
  obtain ⟨d, rfl⟩ : ∃ d2, d = d2 + 1 := ⟨d - 1, by omega⟩
  exact sd_cal_of sd_i_X0_partPence (Nat.le_of_ble_eq_true rfl) (t_X0_partPence (by omega) this arr0 h_this h_arr0 p1 M Rr h)
-- X4_worth
def sd_q_X4_worth : sd_MI := (yX4_worth, cX4_worth, 3, (some .long), 4, 1, sd_t_X4_worth)
set_option maxRecDepth 4000 in
theorem sd_i_X4_worth : sd_mL[36]? = some sd_q_X4_worth := rfl
def f_X4_worth_2 (k47 : Int → sd_M → Option (Int × sd_M)) (this : Nat) : Nat → Int → sd_M → Option (Int × sd_M)
  | 0, _, _ => none
  | n + 1, v2, M => if (M this 0) ≤ v2 then (some (0, M)) else (if 0 ≤ v2 ∧ v2 < 12 then (if 0 ≤ v2 ∧ v2 < 12 then (if (M (this + 2) v2.toNat) = (M (this + 3) v2.toNat) then (k47 v2 M) else (if 0 ≤ v2 ∧ v2 < 12 then (if 0 ≤ v2 ∧ v2 < 12 then ((f_X4_run this (M (this + 2) v2.toNat) (M (this + 3) v2.toNat) M).bind fun r7 => if (sd_cmpl r7.1 0) = 0 then (f_X4_worth_2 k47 this n (sd_w (v2 + 1)) r7.2) else (k47 v2 r7.2)) else none) else none)) else none) else none)
set_option maxRecDepth 4000 in
theorem t_X4_worth_2 {X : Nat → List sd_V → List sd_E → sd_A → Prop} {d : Nat} (hd : 2 ≤ d) (this : Nat) (h_this : sd_o this 4) (k47 : Int → sd_M → Option (Int × sd_M)) (hk47 : ∀ (v2 : Int) (M : sd_M) (Rr : Int × sd_M), k47 v2 M = some Rr → sd_B X d sd_q_X4_worth 47 [(0, .inr (.inr (some (this)))), (1, .inr (.inr (some (317)))), (2, .inl (v2))] [] M (some (.inr (.inl Rr.1)), sd_rp Rr.2, 0, 0)) : ∀ (n : Nat) (v2 : Int) (M : sd_M) (Rr : Int × sd_M), f_X4_worth_2 k47 this n v2 M = some Rr → sd_B X d sd_q_X4_worth 2 [(0, .inr (.inr (some (this)))), (1, .inr (.inr (some (317)))), (2, .inl (v2))] [] M (some (.inr (.inl Rr.1)), sd_rp Rr.2, 0, 0) := by
  intro n
  induction n with
  | zero => intro v2 M Rr h; cases h
  | succ n ih =>
    intro v2 M Rr h
    rw [f_X4_worth_2] at h
    refine sd_b_go 2 (pc2 := 4) (lv2 := [(0, .inr (.inr (some (this)))), (1, .inr (.inr (some (317)))), (2, .inl (v2))]) (st2 := [.inr (.inr (some (this))), .inl (v2)]) rfl ?_
    refine sd_b_gi (k := 0) h_this rfl rfl rfl ?_
    by_cases c1 : (M this 0) ≤ v2
    · rw [if_pos c1] at h
      refine sd_b_ct (c := .ge) (tgt := 71) rfl (decide_eq_true c1) (by decide) ?_
      refine sd_b_go 1 (pc2 := 72) (lv2 := [(0, .inr (.inr (some (this)))), (1, .inr (.inr (some (317)))), (2, .inl (v2))]) (st2 := [.inr (.inl (0))]) rfl ?_
      cases h
      exact sd_b_rt rfl rfl rfl
    · rw [if_neg c1] at h
      refine sd_b_cf (c := .ge) rfl (decide_eq_false c1) (by decide) ?_
      refine sd_b_go 1 (pc2 := 11) (lv2 := [(0, .inr (.inr (some (this)))), (1, .inr (.inr (some (317)))), (2, .inl (v2))]) (st2 := [.inr (.inr (some (this)))]) rfl ?_
      refine sd_b_gr (k := 3) h_this rfl rfl rfl ?_
      refine sd_b_go 1 (pc2 := 15) (lv2 := [(0, .inr (.inr (some (this)))), (1, .inr (.inr (some (317)))), (2, .inl (v2))]) (st2 := [.inl (v2), .inr (.inr (some (this + 2)))]) rfl ?_
      obtain ⟨g2, h⟩ := sd_if h
      refine sd_b_ai (sd_oa h_this (by decide) (off := 2) (List.mem_of_getElem? (i := 1) rfl)) g2 rfl ?_
      refine sd_b_go 1 (pc2 := 17) (lv2 := [(0, .inr (.inr (some (this)))), (1, .inr (.inr (some (317)))), (2, .inl (v2))]) (st2 := [.inr (.inr (some (this))), .inl (M (this + 2) v2.toNat)]) rfl ?_
      refine sd_b_gr (k := 4) h_this rfl rfl rfl ?_
      refine sd_b_go 1 (pc2 := 21) (lv2 := [(0, .inr (.inr (some (this)))), (1, .inr (.inr (some (317)))), (2, .inl (v2))]) (st2 := [.inl (v2), .inr (.inr (some (this + 3))), .inl (M (this + 2) v2.toNat)]) rfl ?_
      obtain ⟨g3, h⟩ := sd_if h
      refine sd_b_ai (sd_oa h_this (by decide) (off := 3) (List.mem_of_getElem? (i := 2) rfl)) g3 rfl ?_
      by_cases c4 : (M (this + 2) v2.toNat) = (M (this + 3) v2.toNat)
      · rw [if_pos c4] at h
        refine sd_b_ct (c := .eq) (tgt := 47) rfl (decide_eq_true c4) (by decide) ?_
        refine sd_b_wk [(0, .inr (.inr (some (this)))), (1, .inr (.inr (some (317)))), (2, .inl (v2))] (List.forall_mem_cons.mpr ⟨rfl, (List.forall_mem_cons.mpr ⟨rfl, (List.forall_mem_cons.mpr ⟨rfl, (fun _ h0 => absurd h0 List.not_mem_nil)⟩)⟩)⟩) ?_
        exact hk47 v2 M _ h
      · rw [if_neg c4] at h
        refine sd_b_cf (c := .eq) rfl (decide_eq_false c4) (by decide) ?_
        refine sd_b_go 2 (pc2 := 27) (lv2 := [(0, .inr (.inr (some (this)))), (1, .inr (.inr (some (317)))), (2, .inl (v2))]) (st2 := [.inr (.inr (some (this))), .inr (.inr (some (this)))]) rfl ?_
        refine sd_b_gr (k := 3) h_this rfl rfl rfl ?_
        refine sd_b_go 1 (pc2 := 31) (lv2 := [(0, .inr (.inr (some (this)))), (1, .inr (.inr (some (317)))), (2, .inl (v2))]) (st2 := [.inl (v2), .inr (.inr (some (this + 2))), .inr (.inr (some (this)))]) rfl ?_
        obtain ⟨g5, h⟩ := sd_if h
        refine sd_b_ai (sd_oa h_this (by decide) (off := 2) (List.mem_of_getElem? (i := 1) rfl)) g5 rfl ?_
        refine sd_b_go 1 (pc2 := 33) (lv2 := [(0, .inr (.inr (some (this)))), (1, .inr (.inr (some (317)))), (2, .inl (v2))]) (st2 := [.inr (.inr (some (this))), .inl (M (this + 2) v2.toNat), .inr (.inr (some (this)))]) rfl ?_
        refine sd_b_gr (k := 4) h_this rfl rfl rfl ?_
        refine sd_b_go 1 (pc2 := 37) (lv2 := [(0, .inr (.inr (some (this)))), (1, .inr (.inr (some (317)))), (2, .inl (v2))]) (st2 := [.inl (v2), .inr (.inr (some (this + 3))), .inl (M (this + 2) v2.toNat), .inr (.inr (some (this)))]) rfl ?_
        obtain ⟨g6, h⟩ := sd_if h
        refine sd_b_ai (sd_oa h_this (by decide) (off := 3) (List.mem_of_getElem? (i := 2) rfl)) g6 rfl ?_
        refine sd_b_go 1 (pc2 := 39) (lv2 := [(0, .inr (.inr (some (this)))), (1, .inr (.inr (some (317)))), (2, .inl (v2))]) (st2 := [.inr (.inr (some (317))), .inl (M (this + 3) v2.toNat), .inl (M (this + 2) v2.toNat), .inr (.inr (some (this)))]) rfl ?_
        obtain ⟨r7, e7, h⟩ := sd_bnd h
        refine sd_b_call [.inr (.inr (some (this))), .inl (M (this + 2) v2.toNat), .inl (M (this + 3) v2.toNat), .inr (.inr (some (317)))] [] rfl rfl sd_i_X4_run rfl rfl (Nat.le_of_ble_eq_true rfl) (sd_rc_v h_this) (m_X4_run (by omega) h_this e7) ?_
        refine sd_b_go 2 (pc2 := 44) (lv2 := [(0, .inr (.inr (some (this)))), (1, .inr (.inr (some (317)))), (2, .inl (v2))]) (st2 := [.inl (sd_cmpl r7.1 0)]) rfl ?_
        by_cases c8 : (sd_cmpl r7.1 0) = 0
        · rw [if_pos c8] at h
          refine sd_b_zt (c := .eq) (tgt := 65) rfl (decide_eq_true c8) (by decide) ?_
          refine sd_b_go 2 (pc2 := 2) (lv2 := [(2, .inl (sd_w (v2 + 1))), (0, .inr (.inr (some (this)))), (1, .inr (.inr (some (317))))]) (st2 := []) rfl ?_
          refine sd_b_wk [(0, .inr (.inr (some (this)))), (1, .inr (.inr (some (317)))), (2, .inl (sd_w (v2 + 1)))] (List.forall_mem_cons.mpr ⟨rfl, (List.forall_mem_cons.mpr ⟨rfl, (List.forall_mem_cons.mpr ⟨rfl, (fun _ h0 => absurd h0 List.not_mem_nil)⟩)⟩)⟩) ?_
          exact ih (sd_w (v2 + 1)) r7.2 _ h
        · rw [if_neg c8] at h
          refine sd_b_zf (c := .eq) rfl (decide_eq_false c8) (by decide) ?_
          refine sd_b_wk [(0, .inr (.inr (some (this)))), (1, .inr (.inr (some (317)))), (2, .inl (v2))] (List.forall_mem_cons.mpr ⟨rfl, (List.forall_mem_cons.mpr ⟨rfl, (List.forall_mem_cons.mpr ⟨rfl, (fun _ h0 => absurd h0 List.not_mem_nil)⟩)⟩)⟩) ?_
          exact hk47 v2 r7.2 _ h
def f_X4_worth_47 (this : Nat) (v2 : Int) (M : sd_M) : Option (Int × sd_M) := if 0 ≤ v2 ∧ v2 < 12 then (if 0 ≤ v2 ∧ v2 < 12 then ((f_X4_run this (M (this + 1) v2.toNat) (M (this + 2) v2.toNat) M).bind fun r3 => some (r3.1, r3.2)) else none) else none
set_option maxRecDepth 4000 in
theorem t_X4_worth_47 {X : Nat → List sd_V → List sd_E → sd_A → Prop} {d : Nat} (hd : 2 ≤ d) (this : Nat) (h_this : sd_o this 4) (v2 : Int) (M : sd_M) (Rr : Int × sd_M) (h : f_X4_worth_47 this v2 M = some Rr) : sd_B X d sd_q_X4_worth 47 [(0, .inr (.inr (some (this)))), (1, .inr (.inr (some (317)))), (2, .inl (v2))] [] M (some (.inr (.inl Rr.1)), sd_rp Rr.2, 0, 0) := by
  unfold f_X4_worth_47 at h
  refine sd_b_go 2 (pc2 := 49) (lv2 := [(0, .inr (.inr (some (this)))), (1, .inr (.inr (some (317)))), (2, .inl (v2))]) (st2 := [.inr (.inr (some (this))), .inr (.inr (some (this)))]) rfl ?_
  refine sd_b_gr (k := 2) h_this rfl rfl rfl ?_
  refine sd_b_go 1 (pc2 := 53) (lv2 := [(0, .inr (.inr (some (this)))), (1, .inr (.inr (some (317)))), (2, .inl (v2))]) (st2 := [.inl (v2), .inr (.inr (some (this + 1))), .inr (.inr (some (this)))]) rfl ?_
  obtain ⟨g1, h⟩ := sd_if h
  refine sd_b_ai (sd_oa h_this (by decide) (off := 1) (List.mem_of_getElem? (i := 0) rfl)) g1 rfl ?_
  refine sd_b_go 1 (pc2 := 55) (lv2 := [(0, .inr (.inr (some (this)))), (1, .inr (.inr (some (317)))), (2, .inl (v2))]) (st2 := [.inr (.inr (some (this))), .inl (M (this + 1) v2.toNat), .inr (.inr (some (this)))]) rfl ?_
  refine sd_b_gr (k := 3) h_this rfl rfl rfl ?_
  refine sd_b_go 1 (pc2 := 59) (lv2 := [(0, .inr (.inr (some (this)))), (1, .inr (.inr (some (317)))), (2, .inl (v2))]) (st2 := [.inl (v2), .inr (.inr (some (this + 2))), .inl (M (this + 1) v2.toNat), .inr (.inr (some (this)))]) rfl ?_
  obtain ⟨g2, h⟩ := sd_if h
  refine sd_b_ai (sd_oa h_this (by decide) (off := 2) (List.mem_of_getElem? (i := 1) rfl)) g2 rfl ?_
  refine sd_b_go 1 (pc2 := 61) (lv2 := [(0, .inr (.inr (some (this)))), (1, .inr (.inr (some (317)))), (2, .inl (v2))]) (st2 := [.inr (.inr (some (317))), .inl (M (this + 2) v2.toNat), .inl (M (this + 1) v2.toNat), .inr (.inr (some (this)))]) rfl ?_
  obtain ⟨r3, e3, h⟩ := sd_bnd h
  refine sd_b_call [.inr (.inr (some (this))), .inl (M (this + 1) v2.toNat), .inl (M (this + 2) v2.toNat), .inr (.inr (some (317)))] [] rfl rfl sd_i_X4_run rfl rfl (Nat.le_of_ble_eq_true rfl) (sd_rc_v h_this) (m_X4_run (by omega) h_this e3) ?_
  cases h
  exact sd_b_rt rfl rfl rfl
def f_X4_worth (this : Nat) (M : sd_M) : Option (Int × sd_M) := f_X4_worth_2 (f_X4_worth_47 this) this 4000 0 M
set_option maxRecDepth 4000 in
theorem t_X4_worth {X : Nat → List sd_V → List sd_E → sd_A → Prop} {d : Nat} (hd : 2 ≤ d) (this : Nat) (h_this : sd_o this 4) (M : sd_M) (Rr : Int × sd_M) (h : f_X4_worth this M = some Rr) : sd_B X d sd_q_X4_worth 0 [(0, .inr (.inr (some (this)))), (1, .inr (.inr (some (317))))] [] M (some (.inr (.inl Rr.1)), sd_rp Rr.2, 0, 0) := by
  unfold f_X4_worth at h
  refine sd_b_go 2 (pc2 := 2) (lv2 := [(2, .inl (0)), (0, .inr (.inr (some (this)))), (1, .inr (.inr (some (317))))]) (st2 := []) rfl ?_
  refine sd_b_wk [(0, .inr (.inr (some (this)))), (1, .inr (.inr (some (317)))), (2, .inl (0))] (List.forall_mem_cons.mpr ⟨rfl, (List.forall_mem_cons.mpr ⟨rfl, (List.forall_mem_cons.mpr ⟨rfl, (fun _ h0 => absurd h0 List.not_mem_nil)⟩)⟩)⟩) ?_
  exact t_X4_worth_2 hd this h_this (f_X4_worth_47 this) (t_X4_worth_47 hd this h_this) 4000 0 M _ h
theorem m_X4_worth {X : Nat → List sd_V → List sd_E → sd_A → Prop} {d : Nat} (hd : 3 ≤ d) {this : Nat} (h_this : sd_o this 4) {M : sd_M} {Rr : Int × sd_M} (h : f_X4_worth this M = some Rr) : sd_Cal X d 36 [.inr (.inr (some (this))), .inr (.inr (some (317)))] (sd_rp M) (some (.inr (.inl Rr.1)), sd_rp Rr.2, 0, 0) := by
  obtain ⟨d, rfl⟩ : ∃ d2, d = d2 + 1 := ⟨d - 1, by omega⟩
  exact sd_cal_of sd_i_X4_worth (Nat.le_of_ble_eq_true rfl) (t_X4_worth (by omega) this h_this M Rr h)
-- X5_readsSum
def sd_q_X5_readsSum : sd_MI := (yX5_readsSum, cX5_readsSum, 7, (some .boolean), 5, 2, sd_t_X5_readsSum)
set_option maxRecDepth 4000 in
theorem sd_i_X5_readsSum : sd_mL[45]? = some sd_q_X5_readsSum := rfl
def f_X5_readsSum_119 (k8 : Int → Int → Int → sd_M → Option (Int × sd_M)) (into : Nat) (v3 : Int) (v4 : Int) (v5 : Int) (M : sd_M) : Option (Int × sd_M) := (f_X7_step M).bind fun r1 => k8 v3 v4 (sd_w (v5 + 1)) r1.2
set_option maxRecDepth 4000 in
theorem t_X5_readsSum_119 {X : Nat → List sd_V → List sd_E → sd_A → Prop} {d : Nat} (hd : 2 ≤ d) (into : Nat) (h_into : sd_o into 4) (k8 : Int → Int → Int → sd_M → Option (Int × sd_M)) (hk8 : ∀ (v3 : Int) (v4 : Int) (v5 : Int) (M : sd_M) (Rr : Int × sd_M), k8 v3 v4 v5 M = some Rr → sd_B X d sd_q_X5_readsSum 8 [(0, .inr (.inr (some (14)))), (1, .inr (.inr (some (1)))), (2, .inr (.inr (some (into)))), (3, .inl (v3)), (4, .inl (v4)), (5, .inl (v5))] [] M (some (.inl Rr.1), sd_rp Rr.2, 0, 0)) (v3 : Int) (v4 : Int) (v5 : Int) (M : sd_M) (Rr : Int × sd_M) (h : f_X5_readsSum_119 k8 into v3 v4 v5 M = some Rr) : sd_B X d sd_q_X5_readsSum 119 [(0, .inr (.inr (some (14)))), (1, .inr (.inr (some (1)))), (2, .inr (.inr (some (into)))), (3, .inl (v3)), (4, .inl (v4)), (5, .inl (v5))] [] M (some (.inl Rr.1), sd_rp Rr.2, 0, 0) := by
  unfold f_X5_readsSum_119 at h
  refine sd_b_go 1 (pc2 := 120) (lv2 := [(0, .inr (.inr (some (14)))), (1, .inr (.inr (some (1)))), (2, .inr (.inr (some (into)))), (3, .inl (v3)), (4, .inl (v4)), (5, .inl (v5))]) (st2 := [.inr (.inr (some (1)))]) rfl ?_
  obtain ⟨r1, e1, h⟩ := sd_bnd h
  refine sd_b_call [.inr (.inr (some (1)))] [] rfl rfl sd_i_X7_step rfl rfl (Nat.le_of_ble_eq_true rfl) (sd_rc_v sd_o_1) (m_X7_step (by omega) e1) ?_
  refine sd_b_go 2 (pc2 := 8) (lv2 := [(5, .inl (sd_w (v5 + 1))), (0, .inr (.inr (some (14)))), (1, .inr (.inr (some (1)))), (2, .inr (.inr (some (into)))), (3, .inl (v3)), (4, .inl (v4))]) (st2 := []) rfl ?_
  refine sd_b_wk [(0, .inr (.inr (some (14)))), (1, .inr (.inr (some (1)))), (2, .inr (.inr (some (into)))), (3, .inl (v3)), (4, .inl (v4)), (5, .inl (sd_w (v5 + 1)))] (List.forall_mem_cons.mpr ⟨rfl, (List.forall_mem_cons.mpr ⟨rfl, (List.forall_mem_cons.mpr ⟨rfl, (List.forall_mem_cons.mpr ⟨rfl, (List.forall_mem_cons.mpr ⟨rfl, (List.forall_mem_cons.mpr ⟨rfl, (fun _ h0 => absurd h0 List.not_mem_nil)⟩)⟩)⟩)⟩)⟩)⟩) ?_
  exact hk8 v3 v4 (sd_w (v5 + 1)) r1.2 _ h
def f_X5_readsSum_109 (k8 : Int → Int → Int → sd_M → Option (Int × sd_M)) (into : Nat) (v3 : Int) (v5 : Int) (s0 : Int) (M : sd_M) : Option (Int × sd_M) := if s0 = ((-1)) then (some (1, M)) else (f_X5_readsSum_119 k8 into v3 s0 v5 M)
set_option maxRecDepth 4000 in
theorem t_X5_readsSum_109 {X : Nat → List sd_V → List sd_E → sd_A → Prop} {d : Nat} (hd : 2 ≤ d) (into : Nat) (h_into : sd_o into 4) (k8 : Int → Int → Int → sd_M → Option (Int × sd_M)) (hk8 : ∀ (v3 : Int) (v4 : Int) (v5 : Int) (M : sd_M) (Rr : Int × sd_M), k8 v3 v4 v5 M = some Rr → sd_B X d sd_q_X5_readsSum 8 [(0, .inr (.inr (some (14)))), (1, .inr (.inr (some (1)))), (2, .inr (.inr (some (into)))), (3, .inl (v3)), (4, .inl (v4)), (5, .inl (v5))] [] M (some (.inl Rr.1), sd_rp Rr.2, 0, 0)) (v3 : Int) (v5 : Int) (s0 : Int) (M : sd_M) (Rr : Int × sd_M) (h : f_X5_readsSum_109 k8 into v3 v5 s0 M = some Rr) : sd_B X d sd_q_X5_readsSum 109 [(0, .inr (.inr (some (14)))), (1, .inr (.inr (some (1)))), (2, .inr (.inr (some (into)))), (3, .inl (v3)), (5, .inl (v5))] [.inl (s0)] M (some (.inl Rr.1), sd_rp Rr.2, 0, 0) := by
  unfold f_X5_readsSum_109 at h
  refine sd_b_go 3 (pc2 := 114) (lv2 := [(4, .inl (s0)), (0, .inr (.inr (some (14)))), (1, .inr (.inr (some (1)))), (2, .inr (.inr (some (into)))), (3, .inl (v3)), (5, .inl (v5))]) (st2 := [.inl ((-1)), .inl (s0)]) rfl ?_
  by_cases c1 : s0 = ((-1))
  · rw [if_pos c1] at h
    refine sd_b_cf (c := .ne) rfl (decide_eq_false (not_not_intro c1)) (by decide) ?_
    refine sd_b_go 1 (pc2 := 118) (lv2 := [(4, .inl (s0)), (0, .inr (.inr (some (14)))), (1, .inr (.inr (some (1)))), (2, .inr (.inr (some (into)))), (3, .inl (v3)), (5, .inl (v5))]) (st2 := [.inl (1)]) rfl ?_
    cases h
    exact sd_b_rt rfl rfl rfl
  · rw [if_neg c1] at h
    refine sd_b_ct (c := .ne) (tgt := 119) rfl (decide_eq_true c1) (by decide) ?_
    refine sd_b_wk [(0, .inr (.inr (some (14)))), (1, .inr (.inr (some (1)))), (2, .inr (.inr (some (into)))), (3, .inl (v3)), (4, .inl (s0)), (5, .inl (v5))] (List.forall_mem_cons.mpr ⟨rfl, (List.forall_mem_cons.mpr ⟨rfl, (List.forall_mem_cons.mpr ⟨rfl, (List.forall_mem_cons.mpr ⟨rfl, (List.forall_mem_cons.mpr ⟨rfl, (List.forall_mem_cons.mpr ⟨rfl, (fun _ h0 => absurd h0 List.not_mem_nil)⟩)⟩)⟩)⟩)⟩)⟩) ?_
    exact t_X5_readsSum_119 hd into h_into k8 hk8 v3 s0 v5 M _ h
def f_X5_readsSum_103 (k8 : Int → Int → Int → sd_M → Option (Int × sd_M)) (into : Nat) (v3 : Int) (v5 : Int) (v6 : Int) (M : sd_M) : Option (Int × sd_M) := f_X5_readsSum_109 k8 into v3 v5 v6 M
set_option maxRecDepth 4000 in
theorem t_X5_readsSum_103 {X : Nat → List sd_V → List sd_E → sd_A → Prop} {d : Nat} (hd : 2 ≤ d) (into : Nat) (h_into : sd_o into 4) (k8 : Int → Int → Int → sd_M → Option (Int × sd_M)) (hk8 : ∀ (v3 : Int) (v4 : Int) (v5 : Int) (M : sd_M) (Rr : Int × sd_M), k8 v3 v4 v5 M = some Rr → sd_B X d sd_q_X5_readsSum 8 [(0, .inr (.inr (some (14)))), (1, .inr (.inr (some (1)))), (2, .inr (.inr (some (into)))), (3, .inl (v3)), (4, .inl (v4)), (5, .inl (v5))] [] M (some (.inl Rr.1), sd_rp Rr.2, 0, 0)) (v3 : Int) (v5 : Int) (v6 : Int) (M : sd_M) (Rr : Int × sd_M) (h : f_X5_readsSum_103 k8 into v3 v5 v6 M = some Rr) : sd_B X d sd_q_X5_readsSum 103 [(0, .inr (.inr (some (14)))), (1, .inr (.inr (some (1)))), (2, .inr (.inr (some (into)))), (3, .inl (v3)), (5, .inl (v5)), (6, .inl (v6))] [] M (some (.inl Rr.1), sd_rp Rr.2, 0, 0) := by
  unfold f_X5_readsSum_103 at h
  refine sd_b_go 2 (pc2 := 109) (lv2 := [(0, .inr (.inr (some (14)))), (1, .inr (.inr (some (1)))), (2, .inr (.inr (some (into)))), (3, .inl (v3)), (5, .inl (v5)), (6, .inl (v6))]) (st2 := [.inl (v6)]) rfl ?_
  refine sd_b_wk [(0, .inr (.inr (some (14)))), (1, .inr (.inr (some (1)))), (2, .inr (.inr (some (into)))), (3, .inl (v3)), (5, .inl (v5))] (List.forall_mem_cons.mpr ⟨rfl, (List.forall_mem_cons.mpr ⟨rfl, (List.forall_mem_cons.mpr ⟨rfl, (List.forall_mem_cons.mpr ⟨rfl, (List.forall_mem_cons.mpr ⟨rfl, (fun _ h0 => absurd h0 List.not_mem_nil)⟩)⟩)⟩)⟩)⟩) ?_
  exact t_X5_readsSum_109 hd into h_into k8 hk8 v3 v5 v6 M _ h
def f_X5_readsSum_91 (k8 : Int → Int → Int → sd_M → Option (Int × sd_M)) (into : Nat) (v3 : Int) (v5 : Int) (v6 : Int) (M : sd_M) : Option (Int × sd_M) := if v6 = 2 then (f_X5_readsSum_103 k8 into v3 v5 v6 M) else (if v6 = 3 then (f_X5_readsSum_103 k8 into v3 v5 v6 M) else (f_X5_readsSum_109 k8 into v3 v5 ((-1)) M))
set_option maxRecDepth 4000 in
theorem t_X5_readsSum_91 {X : Nat → List sd_V → List sd_E → sd_A → Prop} {d : Nat} (hd : 2 ≤ d) (into : Nat) (h_into : sd_o into 4) (k8 : Int → Int → Int → sd_M → Option (Int × sd_M)) (hk8 : ∀ (v3 : Int) (v4 : Int) (v5 : Int) (M : sd_M) (Rr : Int × sd_M), k8 v3 v4 v5 M = some Rr → sd_B X d sd_q_X5_readsSum 8 [(0, .inr (.inr (some (14)))), (1, .inr (.inr (some (1)))), (2, .inr (.inr (some (into)))), (3, .inl (v3)), (4, .inl (v4)), (5, .inl (v5))] [] M (some (.inl Rr.1), sd_rp Rr.2, 0, 0)) (v3 : Int) (v5 : Int) (v6 : Int) (M : sd_M) (Rr : Int × sd_M) (h : f_X5_readsSum_91 k8 into v3 v5 v6 M = some Rr) : sd_B X d sd_q_X5_readsSum 91 [(0, .inr (.inr (some (14)))), (1, .inr (.inr (some (1)))), (2, .inr (.inr (some (into)))), (3, .inl (v3)), (5, .inl (v5)), (6, .inl (v6))] [] M (some (.inl Rr.1), sd_rp Rr.2, 0, 0) := by
  unfold f_X5_readsSum_91 at h
  refine sd_b_go 2 (pc2 := 94) (lv2 := [(0, .inr (.inr (some (14)))), (1, .inr (.inr (some (1)))), (2, .inr (.inr (some (into)))), (3, .inl (v3)), (5, .inl (v5)), (6, .inl (v6))]) (st2 := [.inl (2), .inl (v6)]) rfl ?_
  by_cases c1 : v6 = 2
  · rw [if_pos c1] at h
    refine sd_b_ct (c := .eq) (tgt := 103) rfl (decide_eq_true c1) (by decide) ?_
    refine sd_b_wk [(0, .inr (.inr (some (14)))), (1, .inr (.inr (some (1)))), (2, .inr (.inr (some (into)))), (3, .inl (v3)), (5, .inl (v5)), (6, .inl (v6))] (List.forall_mem_cons.mpr ⟨rfl, (List.forall_mem_cons.mpr ⟨rfl, (List.forall_mem_cons.mpr ⟨rfl, (List.forall_mem_cons.mpr ⟨rfl, (List.forall_mem_cons.mpr ⟨rfl, (List.forall_mem_cons.mpr ⟨rfl, (fun _ h0 => absurd h0 List.not_mem_nil)⟩)⟩)⟩)⟩)⟩)⟩) ?_
    exact t_X5_readsSum_103 hd into h_into k8 hk8 v3 v5 v6 M _ h
  · rw [if_neg c1] at h
    refine sd_b_cf (c := .eq) rfl (decide_eq_false c1) (by decide) ?_
    refine sd_b_go 2 (pc2 := 100) (lv2 := [(0, .inr (.inr (some (14)))), (1, .inr (.inr (some (1)))), (2, .inr (.inr (some (into)))), (3, .inl (v3)), (5, .inl (v5)), (6, .inl (v6))]) (st2 := [.inl (3), .inl (v6)]) rfl ?_
    by_cases c2 : v6 = 3
    · rw [if_pos c2] at h
      refine sd_b_cf (c := .ne) rfl (decide_eq_false (not_not_intro c2)) (by decide) ?_
      refine sd_b_wk [(0, .inr (.inr (some (14)))), (1, .inr (.inr (some (1)))), (2, .inr (.inr (some (into)))), (3, .inl (v3)), (5, .inl (v5)), (6, .inl (v6))] (List.forall_mem_cons.mpr ⟨rfl, (List.forall_mem_cons.mpr ⟨rfl, (List.forall_mem_cons.mpr ⟨rfl, (List.forall_mem_cons.mpr ⟨rfl, (List.forall_mem_cons.mpr ⟨rfl, (List.forall_mem_cons.mpr ⟨rfl, (fun _ h0 => absurd h0 List.not_mem_nil)⟩)⟩)⟩)⟩)⟩)⟩) ?_
      exact t_X5_readsSum_103 hd into h_into k8 hk8 v3 v5 v6 M _ h
    · rw [if_neg c2] at h
      refine sd_b_ct (c := .ne) (tgt := 108) rfl (decide_eq_true c2) (by decide) ?_
      refine sd_b_go 1 (pc2 := 109) (lv2 := [(0, .inr (.inr (some (14)))), (1, .inr (.inr (some (1)))), (2, .inr (.inr (some (into)))), (3, .inl (v3)), (5, .inl (v5)), (6, .inl (v6))]) (st2 := [.inl ((-1))]) rfl ?_
      refine sd_b_wk [(0, .inr (.inr (some (14)))), (1, .inr (.inr (some (1)))), (2, .inr (.inr (some (into)))), (3, .inl (v3)), (5, .inl (v5))] (List.forall_mem_cons.mpr ⟨rfl, (List.forall_mem_cons.mpr ⟨rfl, (List.forall_mem_cons.mpr ⟨rfl, (List.forall_mem_cons.mpr ⟨rfl, (List.forall_mem_cons.mpr ⟨rfl, (fun _ h0 => absurd h0 List.not_mem_nil)⟩)⟩)⟩)⟩)⟩) ?_
      exact t_X5_readsSum_109 hd into h_into k8 hk8 v3 v5 ((-1)) M _ h
def f_X5_readsSum_72 (k8 : Int → Int → Int → sd_M → Option (Int × sd_M)) (into : Nat) (v4 : Int) (v5 : Int) (v6 : Int) (s0 : Int) (M : sd_M) : Option (Int × sd_M) := if s0 = ((-1)) then (if v4 = ((-1)) then (f_X5_readsSum_91 k8 into s0 v5 v6 M) else ((f_X4_add into v4 0 M).bind fun r3 => f_X5_readsSum_91 k8 into s0 v5 v6 r3.2)) else (f_X5_readsSum_119 k8 into s0 v4 v5 M)
set_option maxRecDepth 4000 in
theorem t_X5_readsSum_72 {X : Nat → List sd_V → List sd_E → sd_A → Prop} {d : Nat} (hd : 2 ≤ d) (into : Nat) (h_into : sd_o into 4) (k8 : Int → Int → Int → sd_M → Option (Int × sd_M)) (hk8 : ∀ (v3 : Int) (v4 : Int) (v5 : Int) (M : sd_M) (Rr : Int × sd_M), k8 v3 v4 v5 M = some Rr → sd_B X d sd_q_X5_readsSum 8 [(0, .inr (.inr (some (14)))), (1, .inr (.inr (some (1)))), (2, .inr (.inr (some (into)))), (3, .inl (v3)), (4, .inl (v4)), (5, .inl (v5))] [] M (some (.inl Rr.1), sd_rp Rr.2, 0, 0)) (v4 : Int) (v5 : Int) (v6 : Int) (s0 : Int) (M : sd_M) (Rr : Int × sd_M) (h : f_X5_readsSum_72 k8 into v4 v5 v6 s0 M = some Rr) : sd_B X d sd_q_X5_readsSum 72 [(0, .inr (.inr (some (14)))), (1, .inr (.inr (some (1)))), (2, .inr (.inr (some (into)))), (4, .inl (v4)), (5, .inl (v5)), (6, .inl (v6))] [.inl (s0)] M (some (.inl Rr.1), sd_rp Rr.2, 0, 0) := by
  unfold f_X5_readsSum_72 at h
  refine sd_b_go 3 (pc2 := 75) (lv2 := [(3, .inl (s0)), (0, .inr (.inr (some (14)))), (1, .inr (.inr (some (1)))), (2, .inr (.inr (some (into)))), (4, .inl (v4)), (5, .inl (v5)), (6, .inl (v6))]) (st2 := [.inl ((-1)), .inl (s0)]) rfl ?_
  by_cases c1 : s0 = ((-1))
  · rw [if_pos c1] at h
    refine sd_b_cf (c := .ne) rfl (decide_eq_false (not_not_intro c1)) (by decide) ?_
    refine sd_b_go 2 (pc2 := 81) (lv2 := [(3, .inl (s0)), (0, .inr (.inr (some (14)))), (1, .inr (.inr (some (1)))), (2, .inr (.inr (some (into)))), (4, .inl (v4)), (5, .inl (v5)), (6, .inl (v6))]) (st2 := [.inl ((-1)), .inl (v4)]) rfl ?_
    by_cases c2 : v4 = ((-1))
    · rw [if_pos c2] at h
      refine sd_b_ct (c := .eq) (tgt := 91) rfl (decide_eq_true c2) (by decide) ?_
      refine sd_b_wk [(0, .inr (.inr (some (14)))), (1, .inr (.inr (some (1)))), (2, .inr (.inr (some (into)))), (3, .inl (s0)), (5, .inl (v5)), (6, .inl (v6))] (List.forall_mem_cons.mpr ⟨rfl, (List.forall_mem_cons.mpr ⟨rfl, (List.forall_mem_cons.mpr ⟨rfl, (List.forall_mem_cons.mpr ⟨rfl, (List.forall_mem_cons.mpr ⟨rfl, (List.forall_mem_cons.mpr ⟨rfl, (fun _ h0 => absurd h0 List.not_mem_nil)⟩)⟩)⟩)⟩)⟩)⟩) ?_
      exact t_X5_readsSum_91 hd into h_into k8 hk8 s0 v5 v6 M _ h
    · rw [if_neg c2] at h
      refine sd_b_cf (c := .eq) rfl (decide_eq_false c2) (by decide) ?_
      refine sd_b_go 3 (pc2 := 88) (lv2 := [(3, .inl (s0)), (0, .inr (.inr (some (14)))), (1, .inr (.inr (some (1)))), (2, .inr (.inr (some (into)))), (4, .inl (v4)), (5, .inl (v5)), (6, .inl (v6))]) (st2 := [.inl (0), .inl (v4), .inr (.inr (some (into)))]) rfl ?_
      obtain ⟨r3, e3, h⟩ := sd_bnd h
      refine sd_b_call [.inr (.inr (some (into))), .inl (v4), .inl (0)] [] rfl rfl sd_i_X4_add rfl rfl (Nat.le_of_ble_eq_true rfl) (sd_rc_v h_into) (m_X4_add (by omega) h_into e3) ?_
      refine sd_b_wk [(0, .inr (.inr (some (14)))), (1, .inr (.inr (some (1)))), (2, .inr (.inr (some (into)))), (3, .inl (s0)), (5, .inl (v5)), (6, .inl (v6))] (List.forall_mem_cons.mpr ⟨rfl, (List.forall_mem_cons.mpr ⟨rfl, (List.forall_mem_cons.mpr ⟨rfl, (List.forall_mem_cons.mpr ⟨rfl, (List.forall_mem_cons.mpr ⟨rfl, (List.forall_mem_cons.mpr ⟨rfl, (fun _ h0 => absurd h0 List.not_mem_nil)⟩)⟩)⟩)⟩)⟩)⟩) ?_
      exact t_X5_readsSum_91 hd into h_into k8 hk8 s0 v5 v6 r3.2 _ h
  · rw [if_neg c1] at h
    refine sd_b_ct (c := .ne) (tgt := 119) rfl (decide_eq_true c1) (by decide) ?_
    refine sd_b_wk [(0, .inr (.inr (some (14)))), (1, .inr (.inr (some (1)))), (2, .inr (.inr (some (into)))), (3, .inl (s0)), (4, .inl (v4)), (5, .inl (v5))] (List.forall_mem_cons.mpr ⟨rfl, (List.forall_mem_cons.mpr ⟨rfl, (List.forall_mem_cons.mpr ⟨rfl, (List.forall_mem_cons.mpr ⟨rfl, (List.forall_mem_cons.mpr ⟨rfl, (List.forall_mem_cons.mpr ⟨rfl, (fun _ h0 => absurd h0 List.not_mem_nil)⟩)⟩)⟩)⟩)⟩)⟩) ?_
    exact t_X5_readsSum_119 hd into h_into k8 hk8 s0 v4 v5 M _ h
def f_X5_readsSum_66 (k8 : Int → Int → Int → sd_M → Option (Int × sd_M)) (into : Nat) (v4 : Int) (v5 : Int) (v6 : Int) (M : sd_M) : Option (Int × sd_M) := f_X5_readsSum_72 k8 into v4 v5 v6 v6 M
set_option maxRecDepth 4000 in
theorem t_X5_readsSum_66 {X : Nat → List sd_V → List sd_E → sd_A → Prop} {d : Nat} (hd : 2 ≤ d) (into : Nat) (h_into : sd_o into 4) (k8 : Int → Int → Int → sd_M → Option (Int × sd_M)) (hk8 : ∀ (v3 : Int) (v4 : Int) (v5 : Int) (M : sd_M) (Rr : Int × sd_M), k8 v3 v4 v5 M = some Rr → sd_B X d sd_q_X5_readsSum 8 [(0, .inr (.inr (some (14)))), (1, .inr (.inr (some (1)))), (2, .inr (.inr (some (into)))), (3, .inl (v3)), (4, .inl (v4)), (5, .inl (v5))] [] M (some (.inl Rr.1), sd_rp Rr.2, 0, 0)) (v4 : Int) (v5 : Int) (v6 : Int) (M : sd_M) (Rr : Int × sd_M) (h : f_X5_readsSum_66 k8 into v4 v5 v6 M = some Rr) : sd_B X d sd_q_X5_readsSum 66 [(0, .inr (.inr (some (14)))), (1, .inr (.inr (some (1)))), (2, .inr (.inr (some (into)))), (4, .inl (v4)), (5, .inl (v5)), (6, .inl (v6))] [] M (some (.inl Rr.1), sd_rp Rr.2, 0, 0) := by
  unfold f_X5_readsSum_66 at h
  refine sd_b_go 2 (pc2 := 72) (lv2 := [(0, .inr (.inr (some (14)))), (1, .inr (.inr (some (1)))), (2, .inr (.inr (some (into)))), (4, .inl (v4)), (5, .inl (v5)), (6, .inl (v6))]) (st2 := [.inl (v6)]) rfl ?_
  refine sd_b_wk [(0, .inr (.inr (some (14)))), (1, .inr (.inr (some (1)))), (2, .inr (.inr (some (into)))), (4, .inl (v4)), (5, .inl (v5)), (6, .inl (v6))] (List.forall_mem_cons.mpr ⟨rfl, (List.forall_mem_cons.mpr ⟨rfl, (List.forall_mem_cons.mpr ⟨rfl, (List.forall_mem_cons.mpr ⟨rfl, (List.forall_mem_cons.mpr ⟨rfl, (List.forall_mem_cons.mpr ⟨rfl, (fun _ h0 => absurd h0 List.not_mem_nil)⟩)⟩)⟩)⟩)⟩)⟩) ?_
  exact t_X5_readsSum_72 hd into h_into k8 hk8 v4 v5 v6 v6 M _ h
def f_X5_readsSum_38 (k8 : Int → Int → Int → sd_M → Option (Int × sd_M)) (into : Nat) (v4 : Int) (v5 : Int) (M : sd_M) : Option (Int × sd_M) := (f_X7_kind M).bind fun r1 => (f_X5_stepOf r1.1 r1.2).bind fun r2 => if r2.1 = 4 then (f_X5_readsSum_66 k8 into v4 v5 r2.1 r2.2) else (if r2.1 = 5 then (f_X5_readsSum_66 k8 into v4 v5 r2.1 r2.2) else (if r2.1 = 6 then (f_X5_readsSum_66 k8 into v4 v5 r2.1 r2.2) else (f_X5_readsSum_72 k8 into v4 v5 r2.1 ((-1)) r2.2)))
set_option maxRecDepth 4000 in
theorem t_X5_readsSum_38 {X : Nat → List sd_V → List sd_E → sd_A → Prop} {d : Nat} (hd : 2 ≤ d) (into : Nat) (h_into : sd_o into 4) (k8 : Int → Int → Int → sd_M → Option (Int × sd_M)) (hk8 : ∀ (v3 : Int) (v4 : Int) (v5 : Int) (M : sd_M) (Rr : Int × sd_M), k8 v3 v4 v5 M = some Rr → sd_B X d sd_q_X5_readsSum 8 [(0, .inr (.inr (some (14)))), (1, .inr (.inr (some (1)))), (2, .inr (.inr (some (into)))), (3, .inl (v3)), (4, .inl (v4)), (5, .inl (v5))] [] M (some (.inl Rr.1), sd_rp Rr.2, 0, 0)) (v4 : Int) (v5 : Int) (M : sd_M) (Rr : Int × sd_M) (h : f_X5_readsSum_38 k8 into v4 v5 M = some Rr) : sd_B X d sd_q_X5_readsSum 38 [(0, .inr (.inr (some (14)))), (1, .inr (.inr (some (1)))), (2, .inr (.inr (some (into)))), (4, .inl (v4)), (5, .inl (v5))] [] M (some (.inl Rr.1), sd_rp Rr.2, 0, 0) := by
  unfold f_X5_readsSum_38 at h
  refine sd_b_go 1 (pc2 := 39) (lv2 := [(0, .inr (.inr (some (14)))), (1, .inr (.inr (some (1)))), (2, .inr (.inr (some (into)))), (4, .inl (v4)), (5, .inl (v5))]) (st2 := [.inr (.inr (some (1)))]) rfl ?_
  obtain ⟨r1, e1, h⟩ := sd_bnd h
  refine sd_b_call [.inr (.inr (some (1)))] [] rfl rfl sd_i_X7_kind rfl rfl (Nat.le_of_ble_eq_true rfl) (sd_rc_v sd_o_1) (m_X7_kind (by omega) e1) ?_
  obtain ⟨r2, e2, h⟩ := sd_bnd h
  refine sd_b_call [.inl (r1.1)] [] rfl rfl sd_i_X5_stepOf rfl rfl (Nat.le_of_ble_eq_true rfl) rfl (m_X5_stepOf (by omega) e2) ?_
  refine sd_b_go 3 (pc2 := 50) (lv2 := [(6, .inl (r2.1)), (0, .inr (.inr (some (14)))), (1, .inr (.inr (some (1)))), (2, .inr (.inr (some (into)))), (4, .inl (v4)), (5, .inl (v5))]) (st2 := [.inl (4), .inl (r2.1)]) rfl ?_
  by_cases c3 : r2.1 = 4
  · rw [if_pos c3] at h
    refine sd_b_ct (c := .eq) (tgt := 66) rfl (decide_eq_true c3) (by decide) ?_
    refine sd_b_wk [(0, .inr (.inr (some (14)))), (1, .inr (.inr (some (1)))), (2, .inr (.inr (some (into)))), (4, .inl (v4)), (5, .inl (v5)), (6, .inl (r2.1))] (List.forall_mem_cons.mpr ⟨rfl, (List.forall_mem_cons.mpr ⟨rfl, (List.forall_mem_cons.mpr ⟨rfl, (List.forall_mem_cons.mpr ⟨rfl, (List.forall_mem_cons.mpr ⟨rfl, (List.forall_mem_cons.mpr ⟨rfl, (fun _ h0 => absurd h0 List.not_mem_nil)⟩)⟩)⟩)⟩)⟩)⟩) ?_
    exact t_X5_readsSum_66 hd into h_into k8 hk8 v4 v5 r2.1 r2.2 _ h
  · rw [if_neg c3] at h
    refine sd_b_cf (c := .eq) rfl (decide_eq_false c3) (by decide) ?_
    refine sd_b_go 2 (pc2 := 56) (lv2 := [(6, .inl (r2.1)), (0, .inr (.inr (some (14)))), (1, .inr (.inr (some (1)))), (2, .inr (.inr (some (into)))), (4, .inl (v4)), (5, .inl (v5))]) (st2 := [.inl (5), .inl (r2.1)]) rfl ?_
    by_cases c4 : r2.1 = 5
    · rw [if_pos c4] at h
      refine sd_b_ct (c := .eq) (tgt := 66) rfl (decide_eq_true c4) (by decide) ?_
      refine sd_b_wk [(0, .inr (.inr (some (14)))), (1, .inr (.inr (some (1)))), (2, .inr (.inr (some (into)))), (4, .inl (v4)), (5, .inl (v5)), (6, .inl (r2.1))] (List.forall_mem_cons.mpr ⟨rfl, (List.forall_mem_cons.mpr ⟨rfl, (List.forall_mem_cons.mpr ⟨rfl, (List.forall_mem_cons.mpr ⟨rfl, (List.forall_mem_cons.mpr ⟨rfl, (List.forall_mem_cons.mpr ⟨rfl, (fun _ h0 => absurd h0 List.not_mem_nil)⟩)⟩)⟩)⟩)⟩)⟩) ?_
      exact t_X5_readsSum_66 hd into h_into k8 hk8 v4 v5 r2.1 r2.2 _ h
    · rw [if_neg c4] at h
      refine sd_b_cf (c := .eq) rfl (decide_eq_false c4) (by decide) ?_
      refine sd_b_go 2 (pc2 := 63) (lv2 := [(6, .inl (r2.1)), (0, .inr (.inr (some (14)))), (1, .inr (.inr (some (1)))), (2, .inr (.inr (some (into)))), (4, .inl (v4)), (5, .inl (v5))]) (st2 := [.inl (6), .inl (r2.1)]) rfl ?_
      by_cases c5 : r2.1 = 6
      · rw [if_pos c5] at h
        refine sd_b_cf (c := .ne) rfl (decide_eq_false (not_not_intro c5)) (by decide) ?_
        refine sd_b_wk [(0, .inr (.inr (some (14)))), (1, .inr (.inr (some (1)))), (2, .inr (.inr (some (into)))), (4, .inl (v4)), (5, .inl (v5)), (6, .inl (r2.1))] (List.forall_mem_cons.mpr ⟨rfl, (List.forall_mem_cons.mpr ⟨rfl, (List.forall_mem_cons.mpr ⟨rfl, (List.forall_mem_cons.mpr ⟨rfl, (List.forall_mem_cons.mpr ⟨rfl, (List.forall_mem_cons.mpr ⟨rfl, (fun _ h0 => absurd h0 List.not_mem_nil)⟩)⟩)⟩)⟩)⟩)⟩) ?_
        exact t_X5_readsSum_66 hd into h_into k8 hk8 v4 v5 r2.1 r2.2 _ h
      · rw [if_neg c5] at h
        refine sd_b_ct (c := .ne) (tgt := 71) rfl (decide_eq_true c5) (by decide) ?_
        refine sd_b_go 1 (pc2 := 72) (lv2 := [(6, .inl (r2.1)), (0, .inr (.inr (some (14)))), (1, .inr (.inr (some (1)))), (2, .inr (.inr (some (into)))), (4, .inl (v4)), (5, .inl (v5))]) (st2 := [.inl ((-1))]) rfl ?_
        refine sd_b_wk [(0, .inr (.inr (some (14)))), (1, .inr (.inr (some (1)))), (2, .inr (.inr (some (into)))), (4, .inl (v4)), (5, .inl (v5)), (6, .inl (r2.1))] (List.forall_mem_cons.mpr ⟨rfl, (List.forall_mem_cons.mpr ⟨rfl, (List.forall_mem_cons.mpr ⟨rfl, (List.forall_mem_cons.mpr ⟨rfl, (List.forall_mem_cons.mpr ⟨rfl, (List.forall_mem_cons.mpr ⟨rfl, (fun _ h0 => absurd h0 List.not_mem_nil)⟩)⟩)⟩)⟩)⟩)⟩) ?_
        exact t_X5_readsSum_72 hd into h_into k8 hk8 v4 v5 r2.1 ((-1)) r2.2 _ h
def f_X5_readsSum_8 (into : Nat) : Nat → Int → Int → Int → sd_M → Option (Int × sd_M)
  | 0, _, _, _, _ => none
  | n + 1, v3, v4, v5, M => if 401 ≤ v5 then (some (0, M)) else ((f_X5_readsValue into M).bind fun r2 => if r2.1 = 0 then (some (0, r2.2)) else (if v3 = ((-1)) then (f_X5_readsSum_38 (f_X5_readsSum_8 into n) into v4 v5 r2.2) else ((f_X4_add into v3 0 r2.2).bind fun r5 => f_X5_readsSum_38 (f_X5_readsSum_8 into n) into v4 v5 r5.2)))
set_option maxRecDepth 4000 in
theorem t_X5_readsSum_8 {X : Nat → List sd_V → List sd_E → sd_A → Prop} {d : Nat} (hd : 2 ≤ d) (into : Nat) (h_into : sd_o into 4) : ∀ (n : Nat) (v3 : Int) (v4 : Int) (v5 : Int) (M : sd_M) (Rr : Int × sd_M), f_X5_readsSum_8 into n v3 v4 v5 M = some Rr → sd_B X d sd_q_X5_readsSum 8 [(0, .inr (.inr (some (14)))), (1, .inr (.inr (some (1)))), (2, .inr (.inr (some (into)))), (3, .inl (v3)), (4, .inl (v4)), (5, .inl (v5))] [] M (some (.inl Rr.1), sd_rp Rr.2, 0, 0) := by
  intro n
  induction n with
  | zero => intro v3 v4 v5 M Rr h; cases h
  | succ n ih =>
    intro v3 v4 v5 M Rr h
    rw [f_X5_readsSum_8] at h
    refine sd_b_go 2 (pc2 := 13) (lv2 := [(0, .inr (.inr (some (14)))), (1, .inr (.inr (some (1)))), (2, .inr (.inr (some (into)))), (3, .inl (v3)), (4, .inl (v4)), (5, .inl (v5))]) (st2 := [.inl (401), .inl (v5)]) rfl ?_
    by_cases c1 : 401 ≤ v5
    · rw [if_pos c1] at h
      refine sd_b_ct (c := .ge) (tgt := 129) rfl (decide_eq_true c1) (by decide) ?_
      refine sd_b_go 1 (pc2 := 130) (lv2 := [(0, .inr (.inr (some (14)))), (1, .inr (.inr (some (1)))), (2, .inr (.inr (some (into)))), (3, .inl (v3)), (4, .inl (v4)), (5, .inl (v5))]) (st2 := [.inl (0)]) rfl ?_
      cases h
      exact sd_b_rt rfl rfl rfl
    · rw [if_neg c1] at h
      refine sd_b_cf (c := .ge) rfl (decide_eq_false c1) (by decide) ?_
      refine sd_b_go 3 (pc2 := 19) (lv2 := [(0, .inr (.inr (some (14)))), (1, .inr (.inr (some (1)))), (2, .inr (.inr (some (into)))), (3, .inl (v3)), (4, .inl (v4)), (5, .inl (v5))]) (st2 := [.inr (.inr (some (into))), .inr (.inr (some (1))), .inr (.inr (some (14)))]) rfl ?_
      obtain ⟨r2, e2, h⟩ := sd_bnd h
      refine sd_b_call [.inr (.inr (some (14))), .inr (.inr (some (1))), .inr (.inr (some (into)))] [] rfl rfl sd_i_X5_readsValue rfl rfl (Nat.le_of_ble_eq_true rfl) (sd_rc_v sd_o_14) (m_X5_readsValue (by omega) h_into e2) ?_
      by_cases c3 : r2.1 = 0
      · rw [if_pos c3] at h
        refine sd_b_zf (c := .ne) rfl (decide_eq_false (not_not_intro c3)) (by decide) ?_
        refine sd_b_go 1 (pc2 := 26) (lv2 := [(0, .inr (.inr (some (14)))), (1, .inr (.inr (some (1)))), (2, .inr (.inr (some (into)))), (3, .inl (v3)), (4, .inl (v4)), (5, .inl (v5))]) (st2 := [.inl (0)]) rfl ?_
        cases h
        exact sd_b_rt rfl rfl rfl
      · rw [if_neg c3] at h
        refine sd_b_zt (c := .ne) (tgt := 27) rfl (decide_eq_true c3) (by decide) ?_
        refine sd_b_go 2 (pc2 := 29) (lv2 := [(0, .inr (.inr (some (14)))), (1, .inr (.inr (some (1)))), (2, .inr (.inr (some (into)))), (3, .inl (v3)), (4, .inl (v4)), (5, .inl (v5))]) (st2 := [.inl ((-1)), .inl (v3)]) rfl ?_
        by_cases c4 : v3 = ((-1))
        · rw [if_pos c4] at h
          refine sd_b_ct (c := .eq) (tgt := 38) rfl (decide_eq_true c4) (by decide) ?_
          refine sd_b_wk [(0, .inr (.inr (some (14)))), (1, .inr (.inr (some (1)))), (2, .inr (.inr (some (into)))), (4, .inl (v4)), (5, .inl (v5))] (List.forall_mem_cons.mpr ⟨rfl, (List.forall_mem_cons.mpr ⟨rfl, (List.forall_mem_cons.mpr ⟨rfl, (List.forall_mem_cons.mpr ⟨rfl, (List.forall_mem_cons.mpr ⟨rfl, (fun _ h0 => absurd h0 List.not_mem_nil)⟩)⟩)⟩)⟩)⟩) ?_
          exact t_X5_readsSum_38 hd into h_into (f_X5_readsSum_8 into n) ih v4 v5 r2.2 _ h
        · rw [if_neg c4] at h
          refine sd_b_cf (c := .eq) rfl (decide_eq_false c4) (by decide) ?_
          refine sd_b_go 3 (pc2 := 35) (lv2 := [(0, .inr (.inr (some (14)))), (1, .inr (.inr (some (1)))), (2, .inr (.inr (some (into)))), (3, .inl (v3)), (4, .inl (v4)), (5, .inl (v5))]) (st2 := [.inl (0), .inl (v3), .inr (.inr (some (into)))]) rfl ?_
          obtain ⟨r5, e5, h⟩ := sd_bnd h
          refine sd_b_call [.inr (.inr (some (into))), .inl (v3), .inl (0)] [] rfl rfl sd_i_X4_add rfl rfl (Nat.le_of_ble_eq_true rfl) (sd_rc_v h_into) (m_X4_add (by omega) h_into e5) ?_
          refine sd_b_wk [(0, .inr (.inr (some (14)))), (1, .inr (.inr (some (1)))), (2, .inr (.inr (some (into)))), (4, .inl (v4)), (5, .inl (v5))] (List.forall_mem_cons.mpr ⟨rfl, (List.forall_mem_cons.mpr ⟨rfl, (List.forall_mem_cons.mpr ⟨rfl, (List.forall_mem_cons.mpr ⟨rfl, (List.forall_mem_cons.mpr ⟨rfl, (fun _ h0 => absurd h0 List.not_mem_nil)⟩)⟩)⟩)⟩)⟩) ?_
          exact t_X5_readsSum_38 hd into h_into (f_X5_readsSum_8 into n) ih v4 v5 r5.2 _ h
def f_X5_readsSum (into : Nat) (M : sd_M) : Option (Int × sd_M) := f_X5_readsSum_8 into 4000 ((-1)) ((-1)) 0 M
set_option maxRecDepth 4000 in
theorem t_X5_readsSum {X : Nat → List sd_V → List sd_E → sd_A → Prop} {d : Nat} (hd : 2 ≤ d) (into : Nat) (h_into : sd_o into 4) (M : sd_M) (Rr : Int × sd_M) (h : f_X5_readsSum into M = some Rr) : sd_B X d sd_q_X5_readsSum 0 [(0, .inr (.inr (some (14)))), (1, .inr (.inr (some (1)))), (2, .inr (.inr (some (into))))] [] M (some (.inl Rr.1), sd_rp Rr.2, 0, 0) := by
  unfold f_X5_readsSum at h
  refine sd_b_go 6 (pc2 := 8) (lv2 := [(5, .inl (0)), (4, .inl ((-1))), (3, .inl ((-1))), (0, .inr (.inr (some (14)))), (1, .inr (.inr (some (1)))), (2, .inr (.inr (some (into))))]) (st2 := []) rfl ?_
  refine sd_b_wk [(0, .inr (.inr (some (14)))), (1, .inr (.inr (some (1)))), (2, .inr (.inr (some (into)))), (3, .inl ((-1))), (4, .inl ((-1))), (5, .inl (0))] (List.forall_mem_cons.mpr ⟨rfl, (List.forall_mem_cons.mpr ⟨rfl, (List.forall_mem_cons.mpr ⟨rfl, (List.forall_mem_cons.mpr ⟨rfl, (List.forall_mem_cons.mpr ⟨rfl, (List.forall_mem_cons.mpr ⟨rfl, (fun _ h0 => absurd h0 List.not_mem_nil)⟩)⟩)⟩)⟩)⟩)⟩) ?_
  exact t_X5_readsSum_8 hd into h_into 4000 ((-1)) ((-1)) 0 M _ h
theorem m_X5_readsSum {X : Nat → List sd_V → List sd_E → sd_A → Prop} {d : Nat} (hd : 3 ≤ d) {into : Nat} (h_into : sd_o into 4) {M : sd_M} {Rr : Int × sd_M} (h : f_X5_readsSum into M = some Rr) : sd_Cal X d 45 [.inr (.inr (some (14))), .inr (.inr (some (1))), .inr (.inr (some (into)))] (sd_rp M) (some (.inl Rr.1), sd_rp Rr.2, 0, 0) := by
  obtain ⟨d, rfl⟩ : ∃ d2, d = d2 + 1 := ⟨d - 1, by omega⟩
  exact sd_cal_of sd_i_X5_readsSum (Nat.le_of_ble_eq_true rfl) (t_X5_readsSum (by omega) into h_into M Rr h)
-- X6_readsOffer
def sd_q_X6_readsOffer : sd_MI := (yX6_readsOffer, cX6_readsOffer, 4, (some .boolean), 6, 1, sd_t_X6_readsOffer)
set_option maxRecDepth 4000 in
theorem sd_i_X6_readsOffer : sd_mL[51]? = some sd_q_X6_readsOffer := rfl
def f_X6_readsOffer (M : sd_M) : Option (Int × sd_M) := (f_X7_number 1 999 M).bind fun r1 => if r1.1 = ((-1)) then (some (0, r1.2)) else ((f_X7_number 0 1 r1.2).bind fun r3 => if r3.1 = ((-1)) then (some (0, r3.2)) else ((f_X8_addOffer 7 r1.1 r3.1 r3.2).bind fun r5 => some (1, r5.2)))
set_option maxRecDepth 4000 in
theorem t_X6_readsOffer {X : Nat → List sd_V → List sd_E → sd_A → Prop} {d : Nat} (hd : 2 ≤ d) (M : sd_M) (Rr : Int × sd_M) (h : f_X6_readsOffer M = some Rr) : sd_B X d sd_q_X6_readsOffer 0 [(0, .inr (.inr (some (6)))), (1, .inr (.inr (some (1))))] [] M (some (.inl Rr.1), sd_rp Rr.2, 0, 0) := by
  unfold f_X6_readsOffer at h
  refine sd_b_go 3 (pc2 := 5) (lv2 := [(0, .inr (.inr (some (6)))), (1, .inr (.inr (some (1))))]) (st2 := [.inl (999), .inl (1), .inr (.inr (some (1)))]) rfl ?_
  obtain ⟨r1, e1, h⟩ := sd_bnd h
  refine sd_b_call [.inr (.inr (some (1))), .inl (1), .inl (999)] [] rfl rfl sd_i_X7_number rfl rfl (Nat.le_of_ble_eq_true rfl) (sd_rc_v sd_o_1) (m_X7_number (by omega) e1) ?_
  refine sd_b_go 3 (pc2 := 11) (lv2 := [(2, .inl (r1.1)), (0, .inr (.inr (some (6)))), (1, .inr (.inr (some (1))))]) (st2 := [.inl ((-1)), .inl (r1.1)]) rfl ?_
  by_cases c2 : r1.1 = ((-1))
  · rw [if_pos c2] at h
    refine sd_b_cf (c := .ne) rfl (decide_eq_false (not_not_intro c2)) (by decide) ?_
    refine sd_b_go 1 (pc2 := 15) (lv2 := [(2, .inl (r1.1)), (0, .inr (.inr (some (6)))), (1, .inr (.inr (some (1))))]) (st2 := [.inl (0)]) rfl ?_
    cases h
    exact sd_b_rt rfl rfl rfl
  · rw [if_neg c2] at h
    refine sd_b_ct (c := .ne) (tgt := 16) rfl (decide_eq_true c2) (by decide) ?_
    refine sd_b_go 3 (pc2 := 19) (lv2 := [(2, .inl (r1.1)), (0, .inr (.inr (some (6)))), (1, .inr (.inr (some (1))))]) (st2 := [.inl (1), .inl (0), .inr (.inr (some (1)))]) rfl ?_
    obtain ⟨r3, e3, h⟩ := sd_bnd h
    refine sd_b_call [.inr (.inr (some (1))), .inl (0), .inl (1)] [] rfl rfl sd_i_X7_number rfl rfl (Nat.le_of_ble_eq_true rfl) (sd_rc_v sd_o_1) (m_X7_number (by omega) e3) ?_
    refine sd_b_go 3 (pc2 := 25) (lv2 := [(3, .inl (r3.1)), (2, .inl (r1.1)), (0, .inr (.inr (some (6)))), (1, .inr (.inr (some (1))))]) (st2 := [.inl ((-1)), .inl (r3.1)]) rfl ?_
    by_cases c4 : r3.1 = ((-1))
    · rw [if_pos c4] at h
      refine sd_b_cf (c := .ne) rfl (decide_eq_false (not_not_intro c4)) (by decide) ?_
      refine sd_b_go 1 (pc2 := 29) (lv2 := [(3, .inl (r3.1)), (2, .inl (r1.1)), (0, .inr (.inr (some (6)))), (1, .inr (.inr (some (1))))]) (st2 := [.inl (0)]) rfl ?_
      cases h
      exact sd_b_rt rfl rfl rfl
    · rw [if_neg c4] at h
      refine sd_b_ct (c := .ne) (tgt := 30) rfl (decide_eq_true c4) (by decide) ?_
      refine sd_b_go 1 (pc2 := 31) (lv2 := [(3, .inl (r3.1)), (2, .inl (r1.1)), (0, .inr (.inr (some (6)))), (1, .inr (.inr (some (1))))]) (st2 := [.inr (.inr (some (6)))]) rfl ?_
      refine sd_b_gr (k := 0) sd_o_6 rfl rfl rfl ?_
      refine sd_b_go 2 (pc2 := 36) (lv2 := [(3, .inl (r3.1)), (2, .inl (r1.1)), (0, .inr (.inr (some (6)))), (1, .inr (.inr (some (1))))]) (st2 := [.inl (r3.1), .inl (r1.1), .inr (.inr (some (7)))]) rfl ?_
      obtain ⟨r5, e5, h⟩ := sd_bnd h
      refine sd_b_call [.inr (.inr (some (7))), .inl (r1.1), .inl (r3.1)] [] rfl rfl sd_i_X8_addOffer rfl rfl (Nat.le_of_ble_eq_true rfl) (sd_rc_v sd_o_7) (m_X8_addOffer (by omega) sd_o_7 e5) ?_
      refine sd_b_go 1 (pc2 := 40) (lv2 := [(3, .inl (r3.1)), (2, .inl (r1.1)), (0, .inr (.inr (some (6)))), (1, .inr (.inr (some (1))))]) (st2 := [.inl (1)]) rfl ?_
      cases h
      exact sd_b_rt rfl rfl rfl
theorem m_X6_readsOffer {X : Nat → List sd_V → List sd_E → sd_A → Prop} {d : Nat} (hd : 3 ≤ d) {M : sd_M} {Rr : Int × sd_M} (h : f_X6_readsOffer M = some Rr) : sd_Cal X d 51 [.inr (.inr (some (6))), .inr (.inr (some (1)))] (sd_rp M) (some (.inl Rr.1), sd_rp Rr.2, 0, 0) := by
  obtain ⟨d, rfl⟩ : ∃ d2, d = d2 + 1 := ⟨d - 1, by omega⟩
  exact sd_cal_of sd_i_X6_readsOffer (Nat.le_of_ble_eq_true rfl) (t_X6_readsOffer (by omega) M Rr h)
-- X6_readsNeed
def sd_q_X6_readsNeed : sd_MI := (yX6_readsNeed, cX6_readsNeed, 5, (some .boolean), 6, 1, sd_t_X6_readsNeed)
set_option maxRecDepth 4000 in
theorem sd_i_X6_readsNeed : sd_mL[52]? = some sd_q_X6_readsNeed := rfl
def f_X6_readsNeed (M : sd_M) : Option (Int × sd_M) := (f_X7_number 0 (sd_w ((M 7 2) - 1)) M).bind fun r1 => if r1.1 = ((-1)) then (some (0, r1.2)) else ((f_X7_number 0 5 r1.2).bind fun r3 => if r3.1 = ((-1)) then (some (0, r3.2)) else ((f_X7_number 0 999 r3.2).bind fun r5 => if r5.1 = ((-1)) then (some (0, r5.2)) else ((f_X8_addNeed 7 r1.1 r3.1 r5.1 r5.2).bind fun r7 => some (1, r7.2))))
set_option maxRecDepth 4000 in
theorem t_X6_readsNeed {X : Nat → List sd_V → List sd_E → sd_A → Prop} {d : Nat} (hd : 2 ≤ d) (M : sd_M) (Rr : Int × sd_M) (h : f_X6_readsNeed M = some Rr) : sd_B X d sd_q_X6_readsNeed 0 [(0, .inr (.inr (some (6)))), (1, .inr (.inr (some (1))))] [] M (some (.inl Rr.1), sd_rp Rr.2, 0, 0) := by
  unfold f_X6_readsNeed at h
  refine sd_b_go 3 (pc2 := 3) (lv2 := [(0, .inr (.inr (some (6)))), (1, .inr (.inr (some (1))))]) (st2 := [.inr (.inr (some (6))), .inl (0), .inr (.inr (some (1)))]) rfl ?_
  refine sd_b_gr (k := 0) sd_o_6 rfl rfl rfl ?_
  refine sd_b_gi (k := 2) sd_o_7 rfl rfl rfl ?_
  refine sd_b_go 2 (pc2 := 11) (lv2 := [(0, .inr (.inr (some (6)))), (1, .inr (.inr (some (1))))]) (st2 := [.inl (sd_w ((M 7 2) - 1)), .inl (0), .inr (.inr (some (1)))]) rfl ?_
  obtain ⟨r1, e1, h⟩ := sd_bnd h
  refine sd_b_call [.inr (.inr (some (1))), .inl (0), .inl (sd_w ((M 7 2) - 1))] [] rfl rfl sd_i_X7_number rfl rfl (Nat.le_of_ble_eq_true rfl) (sd_rc_v sd_o_1) (m_X7_number (by omega) e1) ?_
  refine sd_b_go 3 (pc2 := 17) (lv2 := [(2, .inl (r1.1)), (0, .inr (.inr (some (6)))), (1, .inr (.inr (some (1))))]) (st2 := [.inl ((-1)), .inl (r1.1)]) rfl ?_
  by_cases c2 : r1.1 = ((-1))
  · rw [if_pos c2] at h
    refine sd_b_cf (c := .ne) rfl (decide_eq_false (not_not_intro c2)) (by decide) ?_
    refine sd_b_go 1 (pc2 := 21) (lv2 := [(2, .inl (r1.1)), (0, .inr (.inr (some (6)))), (1, .inr (.inr (some (1))))]) (st2 := [.inl (0)]) rfl ?_
    cases h
    exact sd_b_rt rfl rfl rfl
  · rw [if_neg c2] at h
    refine sd_b_ct (c := .ne) (tgt := 22) rfl (decide_eq_true c2) (by decide) ?_
    refine sd_b_go 3 (pc2 := 25) (lv2 := [(2, .inl (r1.1)), (0, .inr (.inr (some (6)))), (1, .inr (.inr (some (1))))]) (st2 := [.inl (5), .inl (0), .inr (.inr (some (1)))]) rfl ?_
    obtain ⟨r3, e3, h⟩ := sd_bnd h
    refine sd_b_call [.inr (.inr (some (1))), .inl (0), .inl (5)] [] rfl rfl sd_i_X7_number rfl rfl (Nat.le_of_ble_eq_true rfl) (sd_rc_v sd_o_1) (m_X7_number (by omega) e3) ?_
    refine sd_b_go 3 (pc2 := 31) (lv2 := [(3, .inl (r3.1)), (2, .inl (r1.1)), (0, .inr (.inr (some (6)))), (1, .inr (.inr (some (1))))]) (st2 := [.inl ((-1)), .inl (r3.1)]) rfl ?_
    by_cases c4 : r3.1 = ((-1))
    · rw [if_pos c4] at h
      refine sd_b_cf (c := .ne) rfl (decide_eq_false (not_not_intro c4)) (by decide) ?_
      refine sd_b_go 1 (pc2 := 35) (lv2 := [(3, .inl (r3.1)), (2, .inl (r1.1)), (0, .inr (.inr (some (6)))), (1, .inr (.inr (some (1))))]) (st2 := [.inl (0)]) rfl ?_
      cases h
      exact sd_b_rt rfl rfl rfl
    · rw [if_neg c4] at h
      refine sd_b_ct (c := .ne) (tgt := 36) rfl (decide_eq_true c4) (by decide) ?_
      refine sd_b_go 3 (pc2 := 41) (lv2 := [(3, .inl (r3.1)), (2, .inl (r1.1)), (0, .inr (.inr (some (6)))), (1, .inr (.inr (some (1))))]) (st2 := [.inl (999), .inl (0), .inr (.inr (some (1)))]) rfl ?_
      obtain ⟨r5, e5, h⟩ := sd_bnd h
      refine sd_b_call [.inr (.inr (some (1))), .inl (0), .inl (999)] [] rfl rfl sd_i_X7_number rfl rfl (Nat.le_of_ble_eq_true rfl) (sd_rc_v sd_o_1) (m_X7_number (by omega) e5) ?_
      refine sd_b_go 3 (pc2 := 49) (lv2 := [(4, .inl (r5.1)), (3, .inl (r3.1)), (2, .inl (r1.1)), (0, .inr (.inr (some (6)))), (1, .inr (.inr (some (1))))]) (st2 := [.inl ((-1)), .inl (r5.1)]) rfl ?_
      by_cases c6 : r5.1 = ((-1))
      · rw [if_pos c6] at h
        refine sd_b_cf (c := .ne) rfl (decide_eq_false (not_not_intro c6)) (by decide) ?_
        refine sd_b_go 1 (pc2 := 53) (lv2 := [(4, .inl (r5.1)), (3, .inl (r3.1)), (2, .inl (r1.1)), (0, .inr (.inr (some (6)))), (1, .inr (.inr (some (1))))]) (st2 := [.inl (0)]) rfl ?_
        cases h
        exact sd_b_rt rfl rfl rfl
      · rw [if_neg c6] at h
        refine sd_b_ct (c := .ne) (tgt := 54) rfl (decide_eq_true c6) (by decide) ?_
        refine sd_b_go 1 (pc2 := 55) (lv2 := [(4, .inl (r5.1)), (3, .inl (r3.1)), (2, .inl (r1.1)), (0, .inr (.inr (some (6)))), (1, .inr (.inr (some (1))))]) (st2 := [.inr (.inr (some (6)))]) rfl ?_
        refine sd_b_gr (k := 0) sd_o_6 rfl rfl rfl ?_
        refine sd_b_go 3 (pc2 := 62) (lv2 := [(4, .inl (r5.1)), (3, .inl (r3.1)), (2, .inl (r1.1)), (0, .inr (.inr (some (6)))), (1, .inr (.inr (some (1))))]) (st2 := [.inl (r5.1), .inl (r3.1), .inl (r1.1), .inr (.inr (some (7)))]) rfl ?_
        obtain ⟨r7, e7, h⟩ := sd_bnd h
        refine sd_b_call [.inr (.inr (some (7))), .inl (r1.1), .inl (r3.1), .inl (r5.1)] [] rfl rfl sd_i_X8_addNeed rfl rfl (Nat.le_of_ble_eq_true rfl) (sd_rc_v sd_o_7) (m_X8_addNeed (by omega) sd_o_7 e7) ?_
        refine sd_b_go 1 (pc2 := 66) (lv2 := [(4, .inl (r5.1)), (3, .inl (r3.1)), (2, .inl (r1.1)), (0, .inr (.inr (some (6)))), (1, .inr (.inr (some (1))))]) (st2 := [.inl (1)]) rfl ?_
        cases h
        exact sd_b_rt rfl rfl rfl
theorem m_X6_readsNeed {X : Nat → List sd_V → List sd_E → sd_A → Prop} {d : Nat} (hd : 3 ≤ d) {M : sd_M} {Rr : Int × sd_M} (h : f_X6_readsNeed M = some Rr) : sd_Cal X d 52 [.inr (.inr (some (6))), .inr (.inr (some (1)))] (sd_rp M) (some (.inl Rr.1), sd_rp Rr.2, 0, 0) := by
  obtain ⟨d, rfl⟩ : ∃ d2, d = d2 + 1 := ⟨d - 1, by omega⟩
  exact sd_cal_of sd_i_X6_readsNeed (Nat.le_of_ble_eq_true rfl) (t_X6_readsNeed (by omega) M Rr h)
-- X7_cut
def sd_q_X7_cut : sd_MI := (yX7_cut, cX7_cut, 3, none, 7, 0, sd_t_X7_cut)
set_option maxRecDepth 4000 in
theorem sd_i_X7_cut : sd_mL[55]? = some sd_q_X7_cut := rfl
def f_X7_cut_54 (k19 : Int → Int → sd_M → Option (Int × sd_M)) (k62 : sd_M → Option (Int × sd_M)) (v2 : Int) (s0 : Int) (s1 : Int) (M : sd_M) : Option (Int × sd_M) := k19 (sd_w (s1 + s0)) (sd_w (v2 + 1)) M
set_option maxRecDepth 4000 in
theorem t_X7_cut_54 {X : Nat → List sd_V → List sd_E → sd_A → Prop} {d : Nat} (hd : 3 ≤ d) (k19 : Int → Int → sd_M → Option (Int × sd_M)) (k62 : sd_M → Option (Int × sd_M)) (hk19 : ∀ (v1 : Int) (v2 : Int) (M : sd_M) (Rr : Int × sd_M), k19 v1 v2 M = some Rr → sd_B X d sd_q_X7_cut 19 [(0, .inr (.inr (some (1)))), (1, .inl (v1)), (2, .inl (v2))] [] M (none, sd_rp Rr.2, 0, 0)) (hk62 : ∀ (M : sd_M) (Rr : Int × sd_M), k62 M = some Rr → sd_B X d sd_q_X7_cut 62 [(0, .inr (.inr (some (1))))] [] M (none, sd_rp Rr.2, 0, 0)) (v2 : Int) (s0 : Int) (s1 : Int) (M : sd_M) (Rr : Int × sd_M) (h : f_X7_cut_54 k19 k62 v2 s0 s1 M = some Rr) : sd_B X d sd_q_X7_cut 54 [(0, .inr (.inr (some (1)))), (2, .inl (v2))] [.inl (s0), .inl (s1)] M (none, sd_rp Rr.2, 0, 0) := by
  unfold f_X7_cut_54 at h
  refine sd_b_go 4 (pc2 := 19) (lv2 := [(2, .inl (sd_w (v2 + 1))), (1, .inl (sd_w (s1 + s0))), (0, .inr (.inr (some (1))))]) (st2 := []) rfl ?_
  refine sd_b_wk [(0, .inr (.inr (some (1)))), (1, .inl (sd_w (s1 + s0))), (2, .inl (sd_w (v2 + 1)))] (List.forall_mem_cons.mpr ⟨rfl, (List.forall_mem_cons.mpr ⟨rfl, (List.forall_mem_cons.mpr ⟨rfl, (fun _ h0 => absurd h0 List.not_mem_nil)⟩)⟩)⟩) ?_
  exact hk19 (sd_w (s1 + s0)) (sd_w (v2 + 1)) M _ h
def f_X7_cut_19 (k62 : sd_M → Option (Int × sd_M)) : Nat → Int → Int → sd_M → Option (Int × sd_M)
  | 0, _, _, _ => none
  | n + 1, v1, v2, M => if 400 ≤ v2 then (k62 M) else (if (M 1 1) ≤ v1 then (k62 M) else ((f_X7_byteAt v1 M).bind fun r3 => if r3.1 = 32 then (f_X7_cut_54 (f_X7_cut_19 k62 n) k62 v2 1 v1 r3.2) else ((f_X7_cutOne v1 r3.2).bind fun r5 => f_X7_cut_54 (f_X7_cut_19 k62 n) k62 v2 r5.1 v1 r5.2)))
set_option maxRecDepth 4000 in
theorem t_X7_cut_19 {X : Nat → List sd_V → List sd_E → sd_A → Prop} {d : Nat} (hd : 3 ≤ d) (k62 : sd_M → Option (Int × sd_M)) (hk62 : ∀ (M : sd_M) (Rr : Int × sd_M), k62 M = some Rr → sd_B X d sd_q_X7_cut 62 [(0, .inr (.inr (some (1))))] [] M (none, sd_rp Rr.2, 0, 0)) : ∀ (n : Nat) (v1 : Int) (v2 : Int) (M : sd_M) (Rr : Int × sd_M), f_X7_cut_19 k62 n v1 v2 M = some Rr → sd_B X d sd_q_X7_cut 19 [(0, .inr (.inr (some (1)))), (1, .inl (v1)), (2, .inl (v2))] [] M (none, sd_rp Rr.2, 0, 0) := by
  intro n
  induction n with
  | zero => intro v1 v2 M Rr h; cases h
  | succ n ih =>
    intro v1 v2 M Rr h
    rw [f_X7_cut_19] at h
    refine sd_b_go 2 (pc2 := 23) (lv2 := [(0, .inr (.inr (some (1)))), (1, .inl (v1)), (2, .inl (v2))]) (st2 := [.inl (400), .inl (v2)]) rfl ?_
    by_cases c1 : 400 ≤ v2
    · rw [if_pos c1] at h
      refine sd_b_ct (c := .ge) (tgt := 62) rfl (decide_eq_true c1) (by decide) ?_
      refine sd_b_wk [(0, .inr (.inr (some (1))))] (List.forall_mem_cons.mpr ⟨rfl, (fun _ h0 => absurd h0 List.not_mem_nil)⟩) ?_
      exact hk62 M _ h
    · rw [if_neg c1] at h
      refine sd_b_cf (c := .ge) rfl (decide_eq_false c1) (by decide) ?_
      refine sd_b_go 2 (pc2 := 28) (lv2 := [(0, .inr (.inr (some (1)))), (1, .inl (v1)), (2, .inl (v2))]) (st2 := [.inr (.inr (some (1))), .inl (v1)]) rfl ?_
      refine sd_b_gi (k := 1) sd_o_1 rfl rfl rfl ?_
      by_cases c2 : (M 1 1) ≤ v1
      · rw [if_pos c2] at h
        refine sd_b_ct (c := .ge) (tgt := 62) rfl (decide_eq_true c2) (by decide) ?_
        refine sd_b_wk [(0, .inr (.inr (some (1))))] (List.forall_mem_cons.mpr ⟨rfl, (fun _ h0 => absurd h0 List.not_mem_nil)⟩) ?_
        exact hk62 M _ h
      · rw [if_neg c2] at h
        refine sd_b_cf (c := .ge) rfl (decide_eq_false c2) (by decide) ?_
        refine sd_b_go 3 (pc2 := 37) (lv2 := [(0, .inr (.inr (some (1)))), (1, .inl (v1)), (2, .inl (v2))]) (st2 := [.inl (v1), .inr (.inr (some (1))), .inl (v1)]) rfl ?_
        obtain ⟨r3, e3, h⟩ := sd_bnd h
        refine sd_b_call [.inr (.inr (some (1))), .inl (v1)] [.inl (v1)] rfl rfl sd_i_X7_byteAt rfl rfl (Nat.le_of_ble_eq_true rfl) (sd_rc_v sd_o_1) (m_X7_byteAt (by omega) e3) ?_
        refine sd_b_go 1 (pc2 := 42) (lv2 := [(0, .inr (.inr (some (1)))), (1, .inl (v1)), (2, .inl (v2))]) (st2 := [.inl (32), .inl (r3.1), .inl (v1)]) rfl ?_
        by_cases c4 : r3.1 = 32
        · rw [if_pos c4] at h
          refine sd_b_cf (c := .ne) rfl (decide_eq_false (not_not_intro c4)) (by decide) ?_
          refine sd_b_go 2 (pc2 := 54) (lv2 := [(0, .inr (.inr (some (1)))), (1, .inl (v1)), (2, .inl (v2))]) (st2 := [.inl (1), .inl (v1)]) rfl ?_
          refine sd_b_wk [(0, .inr (.inr (some (1)))), (2, .inl (v2))] (List.forall_mem_cons.mpr ⟨rfl, (List.forall_mem_cons.mpr ⟨rfl, (fun _ h0 => absurd h0 List.not_mem_nil)⟩)⟩) ?_
          exact t_X7_cut_54 hd (f_X7_cut_19 k62 n) k62 ih hk62 v2 1 v1 r3.2 _ h
        · rw [if_neg c4] at h
          refine sd_b_ct (c := .ne) (tgt := 49) rfl (decide_eq_true c4) (by decide) ?_
          refine sd_b_go 2 (pc2 := 51) (lv2 := [(0, .inr (.inr (some (1)))), (1, .inl (v1)), (2, .inl (v2))]) (st2 := [.inl (v1), .inr (.inr (some (1))), .inl (v1)]) rfl ?_
          obtain ⟨r5, e5, h⟩ := sd_bnd h
          refine sd_b_call [.inr (.inr (some (1))), .inl (v1)] [.inl (v1)] rfl rfl sd_i_X7_cutOne rfl rfl (Nat.le_of_ble_eq_true rfl) (sd_rc_v sd_o_1) (m_X7_cutOne (by omega) e5) ?_
          refine sd_b_wk [(0, .inr (.inr (some (1)))), (2, .inl (v2))] (List.forall_mem_cons.mpr ⟨rfl, (List.forall_mem_cons.mpr ⟨rfl, (fun _ h0 => absurd h0 List.not_mem_nil)⟩)⟩) ?_
          exact t_X7_cut_54 hd (f_X7_cut_19 k62 n) k62 ih hk62 v2 r5.1 v1 r5.2 _ h
def f_X7_cut_62 (M : sd_M) : Option (Int × sd_M) := (f_X7_addToken 512 (M 1 1) 0 M).bind fun r1 => some (0, r1.2)
set_option maxRecDepth 4000 in
theorem t_X7_cut_62 {X : Nat → List sd_V → List sd_E → sd_A → Prop} {d : Nat} (hd : 3 ≤ d) (M : sd_M) (Rr : Int × sd_M) (h : f_X7_cut_62 M = some Rr) : sd_B X d sd_q_X7_cut 62 [(0, .inr (.inr (some (1))))] [] M (none, sd_rp Rr.2, 0, 0) := by
  unfold f_X7_cut_62 at h
  refine sd_b_go 3 (pc2 := 67) (lv2 := [(0, .inr (.inr (some (1))))]) (st2 := [.inr (.inr (some (1))), .inl (512), .inr (.inr (some (1)))]) rfl ?_
  refine sd_b_gi (k := 1) sd_o_1 rfl rfl rfl ?_
  refine sd_b_go 1 (pc2 := 71) (lv2 := [(0, .inr (.inr (some (1))))]) (st2 := [.inl (0), .inl (M 1 1), .inl (512), .inr (.inr (some (1)))]) rfl ?_
  obtain ⟨r1, e1, h⟩ := sd_bnd h
  refine sd_b_call [.inr (.inr (some (1))), .inl (512), .inl (M 1 1), .inl (0)] [] rfl rfl sd_i_X7_addToken rfl rfl (Nat.le_of_ble_eq_true rfl) (sd_rc_v sd_o_1) (m_X7_addToken (by omega) e1) ?_
  cases h
  exact sd_b_rt rfl rfl rfl
def f_X7_cut (M : sd_M) : Option (Int × sd_M) := f_X7_cut_19 (f_X7_cut_62) 4000 0 0 (sd_s (sd_s (sd_s M 1 3 0) 1 4 0) 1 2 0)
set_option maxRecDepth 4000 in
theorem t_X7_cut {X : Nat → List sd_V → List sd_E → sd_A → Prop} {d : Nat} (hd : 3 ≤ d) (M : sd_M) (Rr : Int × sd_M) (h : f_X7_cut M = some Rr) : sd_B X d sd_q_X7_cut 0 [(0, .inr (.inr (some (1))))] [] M (none, sd_rp Rr.2, 0, 0) := by
  unfold f_X7_cut at h
  refine sd_b_go 2 (pc2 := 2) (lv2 := [(0, .inr (.inr (some (1))))]) (st2 := [.inl (0), .inr (.inr (some (1)))]) rfl ?_
  refine sd_b_pi (k := 3) sd_o_1 rfl rfl rfl rfl rfl ?_
  refine sd_b_go 2 (pc2 := 7) (lv2 := [(0, .inr (.inr (some (1))))]) (st2 := [.inl (0), .inr (.inr (some (1)))]) rfl ?_
  refine sd_b_pi (k := 4) sd_o_1 rfl rfl rfl rfl rfl ?_
  refine sd_b_go 2 (pc2 := 12) (lv2 := [(0, .inr (.inr (some (1))))]) (st2 := [.inl (0), .inr (.inr (some (1)))]) rfl ?_
  refine sd_b_pi (k := 2) sd_o_1 rfl rfl rfl rfl rfl ?_
  refine sd_b_go 4 (pc2 := 19) (lv2 := [(2, .inl (0)), (1, .inl (0)), (0, .inr (.inr (some (1))))]) (st2 := []) rfl ?_
  refine sd_b_wk [(0, .inr (.inr (some (1)))), (1, .inl (0)), (2, .inl (0))] (List.forall_mem_cons.mpr ⟨rfl, (List.forall_mem_cons.mpr ⟨rfl, (List.forall_mem_cons.mpr ⟨rfl, (fun _ h0 => absurd h0 List.not_mem_nil)⟩)⟩)⟩) ?_
  exact t_X7_cut_19 hd (f_X7_cut_62) (t_X7_cut_62 hd) 4000 0 0 (sd_s (sd_s (sd_s M 1 3 0) 1 4 0) 1 2 0) _ h
theorem m_X7_cut {X : Nat → List sd_V → List sd_E → sd_A → Prop} {d : Nat} (hd : 4 ≤ d) {M : sd_M} {Rr : Int × sd_M} (h : f_X7_cut M = some Rr) : sd_Cal X d 55 [.inr (.inr (some (1)))] (sd_rp M) (none, sd_rp Rr.2, 0, 0) := by
  obtain ⟨d, rfl⟩ : ∃ d2, d = d2 + 1 := ⟨d - 1, by omega⟩
  exact sd_cal_of sd_i_X7_cut (Nat.le_of_ble_eq_true rfl) (t_X7_cut (by omega) M Rr h)
-- X9_claim
def sd_q_X9_claim : sd_MI := (yX9_claim, cX9_claim, 5, (some .int), 9, 1, sd_t_X9_claim)
set_option maxRecDepth 4000 in
theorem sd_i_X9_claim : sd_mL[87]? = some sd_q_X9_claim := rfl
def f_X9_claim_45 (k95 : sd_M → Option (Int × sd_M)) : Nat → Int → sd_M → Option (Int × sd_M)
  | 0, _, _ => none
  | n + 1, v3, M => if (M 66 3) ≤ v3 then (k95 M) else (if 0 ≤ v3 ∧ v3 < 9 then (if 0 ≤ (M 72 v3.toNat) ∧ (M 72 v3.toNat) < 9 then (if 0 ≤ (M 72 v3.toNat) ∧ (M 72 v3.toNat) < 9 then (if 0 ≤ (M 72 v3.toNat) ∧ (M 72 v3.toNat) < 9 then (f_X9_claim_45 k95 n (sd_w (v3 + 1)) (sd_s M 71 (M 72 v3.toNat).toNat (if (sd_w ((M 71 (M 72 v3.toNat).toNat) + (M 326 (M 72 v3.toNat).toNat))) < 9999 then (sd_w ((M 71 (M 72 v3.toNat).toNat) + (M 326 (M 72 v3.toNat).toNat))) else 9999))) else none) else none) else none) else none)
set_option maxRecDepth 4000 in
theorem t_X9_claim_45 {X : Nat → List sd_V → List sd_E → sd_A → Prop} {d : Nat} (hd : 3 ≤ d) (k95 : sd_M → Option (Int × sd_M)) (hk95 : ∀ (M : sd_M) (Rr : Int × sd_M), k95 M = some Rr → sd_B X d sd_q_X9_claim 95 [(2, .inr (.inr (some (66))))] [] M (some (.inl Rr.1), sd_rp Rr.2, 0, 0)) : ∀ (n : Nat) (v3 : Int) (M : sd_M) (Rr : Int × sd_M), f_X9_claim_45 k95 n v3 M = some Rr → sd_B X d sd_q_X9_claim 45 [(0, .inr (.inr (some (0)))), (2, .inr (.inr (some (66)))), (3, .inl (v3))] [] M (some (.inl Rr.1), sd_rp Rr.2, 0, 0) := by
  intro n
  induction n with
  | zero => intro v3 M Rr h; cases h
  | succ n ih =>
    intro v3 M Rr h
    rw [f_X9_claim_45] at h
    refine sd_b_go 2 (pc2 := 47) (lv2 := [(0, .inr (.inr (some (0)))), (2, .inr (.inr (some (66)))), (3, .inl (v3))]) (st2 := [.inr (.inr (some (66))), .inl (v3)]) rfl ?_
    refine sd_b_gi (k := 3) sd_o_66 rfl rfl rfl ?_
    by_cases c1 : (M 66 3) ≤ v3
    · rw [if_pos c1] at h
      refine sd_b_ct (c := .ge) (tgt := 95) rfl (decide_eq_true c1) (by decide) ?_
      refine sd_b_wk [(2, .inr (.inr (some (66))))] (List.forall_mem_cons.mpr ⟨rfl, (fun _ h0 => absurd h0 List.not_mem_nil)⟩) ?_
      exact hk95 M _ h
    · rw [if_neg c1] at h
      refine sd_b_cf (c := .ge) rfl (decide_eq_false c1) (by decide) ?_
      refine sd_b_go 1 (pc2 := 54) (lv2 := [(0, .inr (.inr (some (0)))), (2, .inr (.inr (some (66)))), (3, .inl (v3))]) (st2 := [.inr (.inr (some (66)))]) rfl ?_
      refine sd_b_gr (k := 10) sd_o_66 rfl rfl rfl ?_
      refine sd_b_go 1 (pc2 := 58) (lv2 := [(0, .inr (.inr (some (0)))), (2, .inr (.inr (some (66)))), (3, .inl (v3))]) (st2 := [.inl (v3), .inr (.inr (some (72)))]) rfl ?_
      obtain ⟨g2, h⟩ := sd_if h
      refine sd_b_ai (sd_oa sd_o_66 (by decide) (off := 6) (List.mem_of_getElem? (i := 5) rfl)) g2 rfl ?_
      refine sd_b_go 2 (pc2 := 62) (lv2 := [(4, .inl (M 72 v3.toNat)), (0, .inr (.inr (some (0)))), (2, .inr (.inr (some (66)))), (3, .inl (v3))]) (st2 := [.inr (.inr (some (66)))]) rfl ?_
      refine sd_b_gr (k := 9) sd_o_66 rfl rfl rfl ?_
      refine sd_b_go 3 (pc2 := 71) (lv2 := [(4, .inl (M 72 v3.toNat)), (0, .inr (.inr (some (0)))), (2, .inr (.inr (some (66)))), (3, .inl (v3))]) (st2 := [.inr (.inr (some (66))), .inl (9999), .inl (M 72 v3.toNat), .inr (.inr (some (71)))]) rfl ?_
      refine sd_b_gr (k := 9) sd_o_66 rfl rfl rfl ?_
      refine sd_b_go 1 (pc2 := 76) (lv2 := [(4, .inl (M 72 v3.toNat)), (0, .inr (.inr (some (0)))), (2, .inr (.inr (some (66)))), (3, .inl (v3))]) (st2 := [.inl (M 72 v3.toNat), .inr (.inr (some (71))), .inl (9999), .inl (M 72 v3.toNat), .inr (.inr (some (71)))]) rfl ?_
      obtain ⟨g3, h⟩ := sd_if h
      refine sd_b_ai (sd_oa sd_o_66 (by decide) (off := 5) (List.mem_of_getElem? (i := 4) rfl)) g3 rfl ?_
      refine sd_b_go 1 (pc2 := 78) (lv2 := [(4, .inl (M 72 v3.toNat)), (0, .inr (.inr (some (0)))), (2, .inr (.inr (some (66)))), (3, .inl (v3))]) (st2 := [.inr (.inr (some (0))), .inl (M 71 (M 72 v3.toNat).toNat), .inl (9999), .inl (M 72 v3.toNat), .inr (.inr (some (71)))]) rfl ?_
      refine sd_b_gr (k := 13) sd_o_0 rfl rfl rfl ?_
      refine sd_b_go 1 (pc2 := 83) (lv2 := [(4, .inl (M 72 v3.toNat)), (0, .inr (.inr (some (0)))), (2, .inr (.inr (some (66)))), (3, .inl (v3))]) (st2 := [.inl (M 72 v3.toNat), .inr (.inr (some (326))), .inl (M 71 (M 72 v3.toNat).toNat), .inl (9999), .inl (M 72 v3.toNat), .inr (.inr (some (71)))]) rfl ?_
      obtain ⟨g4, h⟩ := sd_if h
      refine sd_b_ai (sd_oa sd_o_0 (by decide) (off := 326) (List.mem_of_getElem? (i := 1) rfl)) g4 rfl ?_
      refine sd_b_go 1 (pc2 := 85) (lv2 := [(4, .inl (M 72 v3.toNat)), (0, .inr (.inr (some (0)))), (2, .inr (.inr (some (66)))), (3, .inl (v3))]) (st2 := [.inl (sd_w ((M 71 (M 72 v3.toNat).toNat) + (M 326 (M 72 v3.toNat).toNat))), .inl (9999), .inl (M 72 v3.toNat), .inr (.inr (some (71)))]) rfl ?_
      refine sd_b_go 1 (pc2 := 88) (lv2 := [(4, .inl (M 72 v3.toNat)), (0, .inr (.inr (some (0)))), (2, .inr (.inr (some (66)))), (3, .inl (v3))]) (st2 := [.inl (if (sd_w ((M 71 (M 72 v3.toNat).toNat) + (M 326 (M 72 v3.toNat).toNat))) < 9999 then (sd_w ((M 71 (M 72 v3.toNat).toNat) + (M 326 (M 72 v3.toNat).toNat))) else 9999), .inl (M 72 v3.toNat), .inr (.inr (some (71)))]) rfl ?_
      obtain ⟨g5, h⟩ := sd_if h
      refine sd_b_si (sd_oa sd_o_66 (by decide) (off := 5) (List.mem_of_getElem? (i := 4) rfl)) g5 rfl ?_
      refine sd_b_go 2 (pc2 := 45) (lv2 := [(3, .inl (sd_w (v3 + 1))), (4, .inl (M 72 v3.toNat)), (0, .inr (.inr (some (0)))), (2, .inr (.inr (some (66))))]) (st2 := []) rfl ?_
      refine sd_b_wk [(0, .inr (.inr (some (0)))), (2, .inr (.inr (some (66)))), (3, .inl (sd_w (v3 + 1)))] (List.forall_mem_cons.mpr ⟨rfl, (List.forall_mem_cons.mpr ⟨rfl, (List.forall_mem_cons.mpr ⟨rfl, (fun _ h0 => absurd h0 List.not_mem_nil)⟩)⟩)⟩) ?_
      exact ih (sd_w (v3 + 1)) (sd_s M 71 (M 72 v3.toNat).toNat (if (sd_w ((M 71 (M 72 v3.toNat).toNat) + (M 326 (M 72 v3.toNat).toNat))) < 9999 then (sd_w ((M 71 (M 72 v3.toNat).toNat) + (M 326 (M 72 v3.toNat).toNat))) else 9999)) _ h
def f_X9_claim_95 (M : sd_M) : Option (Int × sd_M) := if 0 ≤ (M 72 0) ∧ (M 72 0) < 9 then (some (M 71 (M 72 0).toNat, M)) else none
set_option maxRecDepth 4000 in
theorem t_X9_claim_95 {X : Nat → List sd_V → List sd_E → sd_A → Prop} {d : Nat} (hd : 3 ≤ d) (M : sd_M) (Rr : Int × sd_M) (h : f_X9_claim_95 M = some Rr) : sd_B X d sd_q_X9_claim 95 [(2, .inr (.inr (some (66))))] [] M (some (.inl Rr.1), sd_rp Rr.2, 0, 0) := by
  unfold f_X9_claim_95 at h
  refine sd_b_go 1 (pc2 := 96) (lv2 := [(2, .inr (.inr (some (66))))]) (st2 := [.inr (.inr (some (66)))]) rfl ?_
  refine sd_b_gr (k := 9) sd_o_66 rfl rfl rfl ?_
  refine sd_b_go 1 (pc2 := 100) (lv2 := [(2, .inr (.inr (some (66))))]) (st2 := [.inr (.inr (some (66))), .inr (.inr (some (71)))]) rfl ?_
  refine sd_b_gr (k := 10) sd_o_66 rfl rfl rfl ?_
  refine sd_b_go 1 (pc2 := 104) (lv2 := [(2, .inr (.inr (some (66))))]) (st2 := [.inl (0), .inr (.inr (some (72))), .inr (.inr (some (71)))]) rfl ?_
  refine sd_b_ai (i := 0) (sd_oa sd_o_66 (by decide) (off := 6) (List.mem_of_getElem? (i := 5) rfl)) (by decide) rfl ?_
  obtain ⟨g1, h⟩ := sd_if h
  refine sd_b_ai (sd_oa sd_o_66 (by decide) (off := 5) (List.mem_of_getElem? (i := 4) rfl)) g1 rfl ?_
  cases h
  exact sd_b_rt rfl rfl rfl
def f_X9_claim (p1 : Int) (M : sd_M) : Option (Int × sd_M) := if p1 < 1 then (some ((-1), M)) else (if 9999 < p1 then (some ((-1), M)) else (if 1 ≤ (M 66 3) then ((f_X9_remember M).bind fun r4 => (f_X0_partPence 66 326 p1 r4.2).bind fun r5 => f_X9_claim_45 (f_X9_claim_95) 4000 0 r5.2) else (some ((-1), M))))
set_option maxRecDepth 4000 in
theorem t_X9_claim {X : Nat → List sd_V → List sd_E → sd_A → Prop} {d : Nat} (hd : 3 ≤ d) (p1 : Int) (M : sd_M) (Rr : Int × sd_M) (h : f_X9_claim p1 M = some Rr) : sd_B X d sd_q_X9_claim 0 [(0, .inr (.inr (some (0)))), (1, .inl (p1))] [] M (some (.inl Rr.1), sd_rp Rr.2, 0, 0) := by
  unfold f_X9_claim at h
  refine sd_b_go 1 (pc2 := 1) (lv2 := [(0, .inr (.inr (some (0)))), (1, .inl (p1))]) (st2 := [.inr (.inr (some (0)))]) rfl ?_
  refine sd_b_gr (k := 5) sd_o_0 rfl rfl rfl ?_
  refine sd_b_gr (k := 1) sd_o_58 rfl rfl rfl ?_
  refine sd_b_go 3 (pc2 := 10) (lv2 := [(2, .inr (.inr (some (66)))), (0, .inr (.inr (some (0)))), (1, .inl (p1))]) (st2 := [.inl (1), .inl (p1)]) rfl ?_
  by_cases c1 : p1 < 1
  · rw [if_pos c1] at h
    refine sd_b_ct (c := .lt) (tgt := 28) rfl (decide_eq_true c1) (by decide) ?_
    refine sd_b_go 1 (pc2 := 29) (lv2 := [(2, .inr (.inr (some (66)))), (0, .inr (.inr (some (0)))), (1, .inl (p1))]) (st2 := [.inl ((-1))]) rfl ?_
    cases h
    exact sd_b_rt rfl rfl rfl
  · rw [if_neg c1] at h
    refine sd_b_cf (c := .lt) rfl (decide_eq_false c1) (by decide) ?_
    refine sd_b_go 2 (pc2 := 17) (lv2 := [(2, .inr (.inr (some (66)))), (0, .inr (.inr (some (0)))), (1, .inl (p1))]) (st2 := [.inl (9999), .inl (p1)]) rfl ?_
    by_cases c2 : 9999 < p1
    · rw [if_pos c2] at h
      refine sd_b_ct (c := .gt) (tgt := 28) rfl (decide_eq_true c2) (by decide) ?_
      refine sd_b_go 1 (pc2 := 29) (lv2 := [(2, .inr (.inr (some (66)))), (0, .inr (.inr (some (0)))), (1, .inl (p1))]) (st2 := [.inl ((-1))]) rfl ?_
      cases h
      exact sd_b_rt rfl rfl rfl
    · rw [if_neg c2] at h
      refine sd_b_cf (c := .gt) rfl (decide_eq_false c2) (by decide) ?_
      refine sd_b_go 1 (pc2 := 21) (lv2 := [(2, .inr (.inr (some (66)))), (0, .inr (.inr (some (0)))), (1, .inl (p1))]) (st2 := [.inr (.inr (some (66)))]) rfl ?_
      refine sd_b_gi (k := 3) sd_o_66 rfl rfl rfl ?_
      refine sd_b_go 1 (pc2 := 25) (lv2 := [(2, .inr (.inr (some (66)))), (0, .inr (.inr (some (0)))), (1, .inl (p1))]) (st2 := [.inl (1), .inl (M 66 3)]) rfl ?_
      by_cases c3 : 1 ≤ (M 66 3)
      · rw [if_pos c3] at h
        refine sd_b_ct (c := .ge) (tgt := 30) rfl (decide_eq_true c3) (by decide) ?_
        refine sd_b_go 1 (pc2 := 31) (lv2 := [(2, .inr (.inr (some (66)))), (0, .inr (.inr (some (0)))), (1, .inl (p1))]) (st2 := [.inr (.inr (some (0)))]) rfl ?_
        obtain ⟨r4, e4, h⟩ := sd_bnd h
        refine sd_b_call [.inr (.inr (some (0)))] [] rfl rfl sd_i_X9_remember rfl rfl (Nat.le_of_ble_eq_true rfl) (sd_rc_v sd_o_0) (m_X9_remember (by omega) e4) ?_
        refine sd_b_go 3 (pc2 := 37) (lv2 := [(2, .inr (.inr (some (66)))), (0, .inr (.inr (some (0)))), (1, .inl (p1))]) (st2 := [.inr (.inr (some (0))), .inl (p1), .inr (.inr (some (66)))]) rfl ?_
        refine sd_b_gr (k := 13) sd_o_0 rfl rfl rfl ?_
        obtain ⟨r5, e5, h⟩ := sd_bnd h
        refine sd_b_call [.inr (.inr (some (66))), .inl (p1), .inr (.inr (some (326)))] [] rfl rfl sd_i_X0_partPence rfl rfl (Nat.le_of_ble_eq_true rfl) (sd_rc_v sd_o_66) (m_X0_partPence (by omega) sd_o_66 (sd_oa sd_o_0 (by decide) (off := 326) (List.mem_of_getElem? (i := 1) rfl)) e5) ?_
        refine sd_b_go 2 (pc2 := 45) (lv2 := [(3, .inl (0)), (2, .inr (.inr (some (66)))), (0, .inr (.inr (some (0)))), (1, .inl (p1))]) (st2 := []) rfl ?_
        refine sd_b_wk [(0, .inr (.inr (some (0)))), (2, .inr (.inr (some (66)))), (3, .inl (0))] (List.forall_mem_cons.mpr ⟨rfl, (List.forall_mem_cons.mpr ⟨rfl, (List.forall_mem_cons.mpr ⟨rfl, (fun _ h0 => absurd h0 List.not_mem_nil)⟩)⟩)⟩) ?_
        exact t_X9_claim_45 hd (f_X9_claim_95) (t_X9_claim_95 hd) 4000 0 r5.2 _ h
      · rw [if_neg c3] at h
        refine sd_b_cf (c := .ge) rfl (decide_eq_false c3) (by decide) ?_
        refine sd_b_go 1 (pc2 := 29) (lv2 := [(2, .inr (.inr (some (66)))), (0, .inr (.inr (some (0)))), (1, .inl (p1))]) (st2 := [.inl ((-1))]) rfl ?_
        cases h
        exact sd_b_rt rfl rfl rfl
theorem m_X9_claim {X : Nat → List sd_V → List sd_E → sd_A → Prop} {d : Nat} (hd : 4 ≤ d) {p1 : Int} {M : sd_M} {Rr : Int × sd_M} (h : f_X9_claim p1 M = some Rr) : sd_Cal X d 87 [.inr (.inr (some (0))), .inl (p1)] (sd_rp M) (some (.inl Rr.1), sd_rp Rr.2, 0, 0) := by
  obtain ⟨d, rfl⟩ : ∃ d2, d = d2 + 1 := ⟨d - 1, by omega⟩
  exact sd_cal_of sd_i_X9_claim (Nat.le_of_ble_eq_true rfl) (t_X9_claim (by omega) p1 M Rr h)
-- X9_pence
def sd_q_X9_pence : sd_MI := (yX9_pence, cX9_pence, 3, (some .int), 9, 2, sd_t_X9_pence)
set_option maxRecDepth 4000 in
theorem sd_i_X9_pence : sd_mL[120]? = some sd_q_X9_pence := rfl
def f_X9_pence (p1 : Int) (p2 : Int) (M : sd_M) : Option (Int × sd_M) := if p1 < 0 then (some ((-1), M)) else (if 9999 < p1 then (some ((-1), M)) else ((f_X9_isLine p2 M).bind fun r3 => if r3.1 = 0 then (some ((-1), r3.2)) else ((f_X0_partPence 66 326 p1 r3.2).bind fun r5 => if 0 ≤ p2 ∧ p2 < 9 then (some ((r5.2) 326 p2.toNat, r5.2)) else none)))
set_option maxRecDepth 4000 in
theorem t_X9_pence {X : Nat → List sd_V → List sd_E → sd_A → Prop} {d : Nat} (hd : 3 ≤ d) (p1 : Int) (p2 : Int) (M : sd_M) (Rr : Int × sd_M) (h : f_X9_pence p1 p2 M = some Rr) : sd_B X d sd_q_X9_pence 0 [(0, .inr (.inr (some (0)))), (1, .inl (p1)), (2, .inl (p2))] [] M (some (.inl Rr.1), sd_rp Rr.2, 0, 0) := by
  unfold f_X9_pence at h
  refine sd_b_go 1 (pc2 := 1) (lv2 := [(0, .inr (.inr (some (0)))), (1, .inl (p1)), (2, .inl (p2))]) (st2 := [.inl (p1)]) rfl ?_
  by_cases c1 : p1 < 0
  · rw [if_pos c1] at h
    refine sd_b_zt (c := .lt) (tgt := 19) rfl (decide_eq_true c1) (by decide) ?_
    refine sd_b_go 1 (pc2 := 20) (lv2 := [(0, .inr (.inr (some (0)))), (1, .inl (p1)), (2, .inl (p2))]) (st2 := [.inl ((-1))]) rfl ?_
    cases h
    exact sd_b_rt rfl rfl rfl
  · rw [if_neg c1] at h
    refine sd_b_zf (c := .lt) rfl (decide_eq_false c1) (by decide) ?_
    refine sd_b_go 2 (pc2 := 8) (lv2 := [(0, .inr (.inr (some (0)))), (1, .inl (p1)), (2, .inl (p2))]) (st2 := [.inl (9999), .inl (p1)]) rfl ?_
    by_cases c2 : 9999 < p1
    · rw [if_pos c2] at h
      refine sd_b_ct (c := .gt) (tgt := 19) rfl (decide_eq_true c2) (by decide) ?_
      refine sd_b_go 1 (pc2 := 20) (lv2 := [(0, .inr (.inr (some (0)))), (1, .inl (p1)), (2, .inl (p2))]) (st2 := [.inl ((-1))]) rfl ?_
      cases h
      exact sd_b_rt rfl rfl rfl
    · rw [if_neg c2] at h
      refine sd_b_cf (c := .gt) rfl (decide_eq_false c2) (by decide) ?_
      refine sd_b_go 2 (pc2 := 13) (lv2 := [(0, .inr (.inr (some (0)))), (1, .inl (p1)), (2, .inl (p2))]) (st2 := [.inl (p2), .inr (.inr (some (0)))]) rfl ?_
      obtain ⟨r3, e3, h⟩ := sd_bnd h
      refine sd_b_call [.inr (.inr (some (0))), .inl (p2)] [] rfl rfl sd_i_X9_isLine rfl rfl (Nat.le_of_ble_eq_true rfl) (sd_rc_v sd_o_0) (m_X9_isLine (by omega) e3) ?_
      by_cases c4 : r3.1 = 0
      · rw [if_pos c4] at h
        refine sd_b_zf (c := .ne) rfl (decide_eq_false (not_not_intro c4)) (by decide) ?_
        refine sd_b_go 1 (pc2 := 20) (lv2 := [(0, .inr (.inr (some (0)))), (1, .inl (p1)), (2, .inl (p2))]) (st2 := [.inl ((-1))]) rfl ?_
        cases h
        exact sd_b_rt rfl rfl rfl
      · rw [if_neg c4] at h
        refine sd_b_zt (c := .ne) (tgt := 21) rfl (decide_eq_true c4) (by decide) ?_
        refine sd_b_go 1 (pc2 := 22) (lv2 := [(0, .inr (.inr (some (0)))), (1, .inl (p1)), (2, .inl (p2))]) (st2 := [.inr (.inr (some (0)))]) rfl ?_
        refine sd_b_gr (k := 5) sd_o_0 rfl rfl rfl ?_
        refine sd_b_gr (k := 1) sd_o_58 rfl rfl rfl ?_
        refine sd_b_go 2 (pc2 := 30) (lv2 := [(0, .inr (.inr (some (0)))), (1, .inl (p1)), (2, .inl (p2))]) (st2 := [.inr (.inr (some (0))), .inl (p1), .inr (.inr (some (66)))]) rfl ?_
        refine sd_b_gr (k := 13) sd_o_0 rfl rfl rfl ?_
        obtain ⟨r5, e5, h⟩ := sd_bnd h
        refine sd_b_call [.inr (.inr (some (66))), .inl (p1), .inr (.inr (some (326)))] [] rfl rfl sd_i_X0_partPence rfl rfl (Nat.le_of_ble_eq_true rfl) (sd_rc_v sd_o_66) (m_X0_partPence (by omega) sd_o_66 (sd_oa sd_o_0 (by decide) (off := 326) (List.mem_of_getElem? (i := 1) rfl)) e5) ?_
        refine sd_b_go 1 (pc2 := 37) (lv2 := [(0, .inr (.inr (some (0)))), (1, .inl (p1)), (2, .inl (p2))]) (st2 := [.inr (.inr (some (0)))]) rfl ?_
        refine sd_b_gr (k := 13) sd_o_0 rfl rfl rfl ?_
        refine sd_b_go 1 (pc2 := 41) (lv2 := [(0, .inr (.inr (some (0)))), (1, .inl (p1)), (2, .inl (p2))]) (st2 := [.inl (p2), .inr (.inr (some (326)))]) rfl ?_
        obtain ⟨g6, h⟩ := sd_if h
        refine sd_b_ai (sd_oa sd_o_0 (by decide) (off := 326) (List.mem_of_getElem? (i := 1) rfl)) g6 rfl ?_
        cases h
        exact sd_b_rt rfl rfl rfl
theorem m_X9_pence {X : Nat → List sd_V → List sd_E → sd_A → Prop} {d : Nat} (hd : 4 ≤ d) {p1 : Int} {p2 : Int} {M : sd_M} {Rr : Int × sd_M} (h : f_X9_pence p1 p2 M = some Rr) : sd_Cal X d 120 [.inr (.inr (some (0))), .inl (p1), .inl (p2)] (sd_rp M) (some (.inl Rr.1), sd_rp Rr.2, 0, 0) := by
  obtain ⟨d, rfl⟩ : ∃ d2, d = d2 + 1 := ⟨d - 1, by omega⟩
  exact sd_cal_of sd_i_X9_pence (Nat.le_of_ble_eq_true rfl) (t_X9_pence (by omega) p1 p2 M Rr h)
-- X0_takeIn
def sd_q_X0_takeIn : sd_MI := (yX0_takeIn, cX0_takeIn, 2, none, 0, 1, sd_t_X0_takeIn)
set_option maxRecDepth 4000 in
theorem sd_i_X0_takeIn : sd_mL[8]? = some sd_q_X0_takeIn := rfl
def f_X0_takeIn (this : Nat) (p1 : Int) (M : sd_M) : Option (Int × sd_M) := if p1 < 0 then (some (0, M)) else (if 9 ≤ p1 then (some (0, M)) else (if 0 ≤ p1 ∧ p1 < 9 then (if (M (this + 3) p1.toNat) = 0 then (if 9 ≤ (M this 3) then (some (0, M)) else (if 0 ≤ p1 ∧ p1 < 9 then (if 0 ≤ (sd_s M (this + 3) p1.toNat 1 this 3) ∧ (sd_s M (this + 3) p1.toNat 1 this 3) < 9 then ((f_X0_sign this (sd_s (sd_s (sd_s M (this + 3) p1.toNat 1) (this + 6) (sd_s M (this + 3) p1.toNat 1 this 3).toNat p1) this 3 (sd_w ((sd_s (sd_s M (this + 3) p1.toNat 1) (this + 6) (sd_s M (this + 3) p1.toNat 1 this 3).toNat p1 this 3) + 1)))).bind fun r8 => some (0, r8.2)) else none) else none)) else (some (0, M))) else none))
set_option maxRecDepth 4000 in
theorem t_X0_takeIn {X : Nat → List sd_V → List sd_E → sd_A → Prop} {d : Nat} (hd : 3 ≤ d) (this : Nat) (h_this : sd_o this 0) (p1 : Int) (M : sd_M) (Rr : Int × sd_M) (h : f_X0_takeIn this p1 M = some Rr) : sd_B X d sd_q_X0_takeIn 0 [(0, .inr (.inr (some (this)))), (1, .inl (p1))] [] M (none, sd_rp Rr.2, 0, 0) := by
  unfold f_X0_takeIn at h
  refine sd_b_go 1 (pc2 := 1) (lv2 := [(0, .inr (.inr (some (this)))), (1, .inl (p1))]) (st2 := [.inl (p1)]) rfl ?_
  by_cases c1 : p1 < 0
  · rw [if_pos c1] at h
    refine sd_b_zt (c := .lt) (tgt := 59) rfl (decide_eq_true c1) (by decide) ?_
    cases h
    exact sd_b_rt rfl rfl rfl
  · rw [if_neg c1] at h
    refine sd_b_zf (c := .lt) rfl (decide_eq_false c1) (by decide) ?_
    refine sd_b_go 2 (pc2 := 7) (lv2 := [(0, .inr (.inr (some (this)))), (1, .inl (p1))]) (st2 := [.inl (9), .inl (p1)]) rfl ?_
    by_cases c2 : 9 ≤ p1
    · rw [if_pos c2] at h
      refine sd_b_ct (c := .ge) (tgt := 59) rfl (decide_eq_true c2) (by decide) ?_
      cases h
      exact sd_b_rt rfl rfl rfl
    · rw [if_neg c2] at h
      refine sd_b_cf (c := .ge) rfl (decide_eq_false c2) (by decide) ?_
      refine sd_b_go 1 (pc2 := 11) (lv2 := [(0, .inr (.inr (some (this)))), (1, .inl (p1))]) (st2 := [.inr (.inr (some (this)))]) rfl ?_
      refine sd_b_gr (k := 7) h_this rfl rfl rfl ?_
      refine sd_b_go 1 (pc2 := 15) (lv2 := [(0, .inr (.inr (some (this)))), (1, .inl (p1))]) (st2 := [.inl (p1), .inr (.inr (some (this + 3)))]) rfl ?_
      obtain ⟨g3, h⟩ := sd_if h
      refine sd_b_ai (sd_oa h_this (by decide) (off := 3) (List.mem_of_getElem? (i := 2) rfl)) g3 rfl ?_
      by_cases c4 : (M (this + 3) p1.toNat) = 0
      · rw [if_pos c4] at h
        refine sd_b_zf (c := .ne) rfl (decide_eq_false (not_not_intro c4)) (by decide) ?_
        refine sd_b_go 1 (pc2 := 20) (lv2 := [(0, .inr (.inr (some (this)))), (1, .inl (p1))]) (st2 := [.inr (.inr (some (this)))]) rfl ?_
        refine sd_b_gi (k := 3) h_this rfl rfl rfl ?_
        refine sd_b_go 1 (pc2 := 25) (lv2 := [(0, .inr (.inr (some (this)))), (1, .inl (p1))]) (st2 := [.inl (9), .inl (M this 3)]) rfl ?_
        by_cases c5 : 9 ≤ (M this 3)
        · rw [if_pos c5] at h
          refine sd_b_ct (c := .ge) (tgt := 59) rfl (decide_eq_true c5) (by decide) ?_
          cases h
          exact sd_b_rt rfl rfl rfl
        · rw [if_neg c5] at h
          refine sd_b_cf (c := .ge) rfl (decide_eq_false c5) (by decide) ?_
          refine sd_b_go 1 (pc2 := 29) (lv2 := [(0, .inr (.inr (some (this)))), (1, .inl (p1))]) (st2 := [.inr (.inr (some (this)))]) rfl ?_
          refine sd_b_gr (k := 7) h_this rfl rfl rfl ?_
          refine sd_b_go 2 (pc2 := 34) (lv2 := [(0, .inr (.inr (some (this)))), (1, .inl (p1))]) (st2 := [.inl (1), .inl (p1), .inr (.inr (some (this + 3)))]) rfl ?_
          obtain ⟨g6, h⟩ := sd_if h
          refine sd_b_si (sd_oa h_this (by decide) (off := 3) (List.mem_of_getElem? (i := 2) rfl)) g6 rfl ?_
          refine sd_b_go 1 (pc2 := 36) (lv2 := [(0, .inr (.inr (some (this)))), (1, .inl (p1))]) (st2 := [.inr (.inr (some (this)))]) rfl ?_
          refine sd_b_gr (k := 10) h_this rfl rfl rfl ?_
          refine sd_b_go 1 (pc2 := 40) (lv2 := [(0, .inr (.inr (some (this)))), (1, .inl (p1))]) (st2 := [.inr (.inr (some (this))), .inr (.inr (some (this + 6)))]) rfl ?_
          refine sd_b_gi (k := 3) h_this rfl rfl rfl ?_
          refine sd_b_go 1 (pc2 := 44) (lv2 := [(0, .inr (.inr (some (this)))), (1, .inl (p1))]) (st2 := [.inl (p1), .inl (sd_s M (this + 3) p1.toNat 1 this 3), .inr (.inr (some (this + 6)))]) rfl ?_
          obtain ⟨g7, h⟩ := sd_if h
          refine sd_b_si (sd_oa h_this (by decide) (off := 6) (List.mem_of_getElem? (i := 5) rfl)) g7 rfl ?_
          refine sd_b_go 2 (pc2 := 47) (lv2 := [(0, .inr (.inr (some (this)))), (1, .inl (p1))]) (st2 := [.inr (.inr (some (this))), .inr (.inr (some (this)))]) rfl ?_
          refine sd_b_gi (k := 3) h_this rfl rfl rfl ?_
          refine sd_b_go 2 (pc2 := 52) (lv2 := [(0, .inr (.inr (some (this)))), (1, .inl (p1))]) (st2 := [.inl (sd_w ((sd_s (sd_s M (this + 3) p1.toNat 1) (this + 6) (sd_s M (this + 3) p1.toNat 1 this 3).toNat p1 this 3) + 1)), .inr (.inr (some (this)))]) rfl ?_
          refine sd_b_pi (k := 3) h_this rfl rfl rfl rfl rfl ?_
          refine sd_b_go 1 (pc2 := 56) (lv2 := [(0, .inr (.inr (some (this)))), (1, .inl (p1))]) (st2 := [.inr (.inr (some (this)))]) rfl ?_
          obtain ⟨r8, e8, h⟩ := sd_bnd h
          refine sd_b_call [.inr (.inr (some (this)))] [] rfl rfl sd_i_X0_sign rfl rfl (Nat.le_of_ble_eq_true rfl) (sd_rc_v h_this) (m_X0_sign (by omega) h_this e8) ?_
          cases h
          exact sd_b_rt rfl rfl rfl
      · rw [if_neg c4] at h
        refine sd_b_zt (c := .ne) (tgt := 59) rfl (decide_eq_true c4) (by decide) ?_
        cases h
        exact sd_b_rt rfl rfl rfl
theorem m_X0_takeIn {X : Nat → List sd_V → List sd_E → sd_A → Prop} {d : Nat} (hd : 4 ≤ d) {this : Nat} (h_this : sd_o this 0) {p1 : Int} {M : sd_M} {Rr : Int × sd_M} (h : f_X0_takeIn this p1 M = some Rr) : sd_Cal X d 8 [.inr (.inr (some (this))), .inl (p1)] (sd_rp M) (none, sd_rp Rr.2, 0, 0) := by
  obtain ⟨d, rfl⟩ : ∃ d2, d = d2 + 1 := ⟨d - 1, by omega⟩
  exact sd_cal_of sd_i_X0_takeIn (Nat.le_of_ble_eq_true rfl) (t_X0_takeIn (by omega) this h_this p1 M Rr h)
-- X0_reorder
def sd_q_X0_reorder : sd_MI := (yX0_reorder, cX0_reorder, 2, none, 0, 1, sd_t_X0_reorder)
set_option maxRecDepth 4000 in
theorem sd_i_X0_reorder : sd_mL[9]? = some sd_q_X0_reorder := rfl
def f_X0_reorder (this : Nat) (p1 : Int) (M : sd_M) : Option (Int × sd_M) := (f_X0_sign this (sd_s M this 0 p1)).bind fun r1 => some (0, r1.2)
set_option maxRecDepth 4000 in
theorem t_X0_reorder {X : Nat → List sd_V → List sd_E → sd_A → Prop} {d : Nat} (hd : 3 ≤ d) (this : Nat) (h_this : sd_o this 0) (p1 : Int) (M : sd_M) (Rr : Int × sd_M) (h : f_X0_reorder this p1 M = some Rr) : sd_B X d sd_q_X0_reorder 0 [(0, .inr (.inr (some (this)))), (1, .inl (p1))] [] M (none, sd_rp Rr.2, 0, 0) := by
  unfold f_X0_reorder at h
  refine sd_b_go 2 (pc2 := 2) (lv2 := [(0, .inr (.inr (some (this)))), (1, .inl (p1))]) (st2 := [.inl (p1), .inr (.inr (some (this)))]) rfl ?_
  refine sd_b_pi (k := 0) h_this rfl rfl rfl rfl rfl ?_
  refine sd_b_go 1 (pc2 := 6) (lv2 := [(0, .inr (.inr (some (this)))), (1, .inl (p1))]) (st2 := [.inr (.inr (some (this)))]) rfl ?_
  obtain ⟨r1, e1, h⟩ := sd_bnd h
  refine sd_b_call [.inr (.inr (some (this)))] [] rfl rfl sd_i_X0_sign rfl rfl (Nat.le_of_ble_eq_true rfl) (sd_rc_v h_this) (m_X0_sign (by omega) h_this e1) ?_
  cases h
  exact sd_b_rt rfl rfl rfl
theorem m_X0_reorder {X : Nat → List sd_V → List sd_E → sd_A → Prop} {d : Nat} (hd : 4 ≤ d) {this : Nat} (h_this : sd_o this 0) {p1 : Int} {M : sd_M} {Rr : Int × sd_M} (h : f_X0_reorder this p1 M = some Rr) : sd_Cal X d 9 [.inr (.inr (some (this))), .inl (p1)] (sd_rp M) (none, sd_rp Rr.2, 0, 0) := by
  obtain ⟨d, rfl⟩ : ∃ d2, d = d2 + 1 := ⟨d - 1, by omega⟩
  exact sd_cal_of sd_i_X0_reorder (Nat.le_of_ble_eq_true rfl) (t_X0_reorder (by omega) this h_this p1 M Rr h)
-- X0_rewrite
def sd_q_X0_rewrite : sd_MI := (yX0_rewrite, cX0_rewrite, 3, none, 0, 2, sd_t_X0_rewrite)
set_option maxRecDepth 4000 in
theorem sd_i_X0_rewrite : sd_mL[10]? = some sd_q_X0_rewrite := rfl
def f_X0_rewrite (this : Nat) (p1 : Int) (p2 : Int) (M : sd_M) : Option (Int × sd_M) := if p1 < 0 then (some (0, M)) else (if 9 ≤ p1 then (some (0, M)) else (if 0 ≤ p1 ∧ p1 < 9 then ((f_X0_sign this (sd_s M (this + 1) p1.toNat p2)).bind fun r4 => some (0, r4.2)) else none))
set_option maxRecDepth 4000 in
theorem t_X0_rewrite {X : Nat → List sd_V → List sd_E → sd_A → Prop} {d : Nat} (hd : 3 ≤ d) (this : Nat) (h_this : sd_o this 0) (p1 : Int) (p2 : Int) (M : sd_M) (Rr : Int × sd_M) (h : f_X0_rewrite this p1 p2 M = some Rr) : sd_B X d sd_q_X0_rewrite 0 [(0, .inr (.inr (some (this)))), (1, .inl (p1)), (2, .inl (p2))] [] M (none, sd_rp Rr.2, 0, 0) := by
  unfold f_X0_rewrite at h
  refine sd_b_go 1 (pc2 := 1) (lv2 := [(0, .inr (.inr (some (this)))), (1, .inl (p1)), (2, .inl (p2))]) (st2 := [.inl (p1)]) rfl ?_
  by_cases c1 : p1 < 0
  · rw [if_pos c1] at h
    refine sd_b_zt (c := .lt) (tgt := 21) rfl (decide_eq_true c1) (by decide) ?_
    cases h
    exact sd_b_rt rfl rfl rfl
  · rw [if_neg c1] at h
    refine sd_b_zf (c := .lt) rfl (decide_eq_false c1) (by decide) ?_
    refine sd_b_go 2 (pc2 := 7) (lv2 := [(0, .inr (.inr (some (this)))), (1, .inl (p1)), (2, .inl (p2))]) (st2 := [.inl (9), .inl (p1)]) rfl ?_
    by_cases c2 : 9 ≤ p1
    · rw [if_pos c2] at h
      refine sd_b_ct (c := .ge) (tgt := 21) rfl (decide_eq_true c2) (by decide) ?_
      cases h
      exact sd_b_rt rfl rfl rfl
    · rw [if_neg c2] at h
      refine sd_b_cf (c := .ge) rfl (decide_eq_false c2) (by decide) ?_
      refine sd_b_go 1 (pc2 := 11) (lv2 := [(0, .inr (.inr (some (this)))), (1, .inl (p1)), (2, .inl (p2))]) (st2 := [.inr (.inr (some (this)))]) rfl ?_
      refine sd_b_gr (k := 5) h_this rfl rfl rfl ?_
      refine sd_b_go 2 (pc2 := 16) (lv2 := [(0, .inr (.inr (some (this)))), (1, .inl (p1)), (2, .inl (p2))]) (st2 := [.inl (p2), .inl (p1), .inr (.inr (some (this + 1)))]) rfl ?_
      obtain ⟨g3, h⟩ := sd_if h
      refine sd_b_si (sd_oa h_this (by decide) (off := 1) (List.mem_of_getElem? (i := 0) rfl)) g3 rfl ?_
      refine sd_b_go 1 (pc2 := 18) (lv2 := [(0, .inr (.inr (some (this)))), (1, .inl (p1)), (2, .inl (p2))]) (st2 := [.inr (.inr (some (this)))]) rfl ?_
      obtain ⟨r4, e4, h⟩ := sd_bnd h
      refine sd_b_call [.inr (.inr (some (this)))] [] rfl rfl sd_i_X0_sign rfl rfl (Nat.le_of_ble_eq_true rfl) (sd_rc_v h_this) (m_X0_sign (by omega) h_this e4) ?_
      cases h
      exact sd_b_rt rfl rfl rfl
theorem m_X0_rewrite {X : Nat → List sd_V → List sd_E → sd_A → Prop} {d : Nat} (hd : 4 ≤ d) {this : Nat} (h_this : sd_o this 0) {p1 : Int} {p2 : Int} {M : sd_M} {Rr : Int × sd_M} (h : f_X0_rewrite this p1 p2 M = some Rr) : sd_Cal X d 10 [.inr (.inr (some (this))), .inl (p1), .inl (p2)] (sd_rp M) (none, sd_rp Rr.2, 0, 0) := by
  obtain ⟨d, rfl⟩ : ∃ d2, d = d2 + 1 := ⟨d - 1, by omega⟩
  exact sd_cal_of sd_i_X0_rewrite (Nat.le_of_ble_eq_true rfl) (t_X0_rewrite (by omega) this h_this p1 p2 M Rr h)
-- X0_leave
def sd_q_X0_leave : sd_MI := (yX0_leave, cX0_leave, 4, none, 0, 1, sd_t_X0_leave)
set_option maxRecDepth 4000 in
theorem sd_i_X0_leave : sd_mL[11]? = some sd_q_X0_leave := rfl
def f_X0_leave_55 (k22 : Int → Int → Int → sd_M → Option (Int × sd_M)) (k61 : Int → Int → sd_M → Option (Int × sd_M)) (this : Nat) (v1 : Int) (v2 : Int) (v3 : Int) (M : sd_M) : Option (Int × sd_M) := k22 v1 v2 (sd_w (v3 + 1)) M
set_option maxRecDepth 4000 in
theorem t_X0_leave_55 {X : Nat → List sd_V → List sd_E → sd_A → Prop} {d : Nat} (hd : 3 ≤ d) (this : Nat) (h_this : sd_o this 0) (k22 : Int → Int → Int → sd_M → Option (Int × sd_M)) (k61 : Int → Int → sd_M → Option (Int × sd_M)) (hk22 : ∀ (v1 : Int) (v2 : Int) (v3 : Int) (M : sd_M) (Rr : Int × sd_M), k22 v1 v2 v3 M = some Rr → sd_B X d sd_q_X0_leave 22 [(0, .inr (.inr (some (this)))), (1, .inl (v1)), (2, .inl (v2)), (3, .inl (v3))] [] M (none, sd_rp Rr.2, 0, 0)) (hk61 : ∀ (v1 : Int) (v2 : Int) (M : sd_M) (Rr : Int × sd_M), k61 v1 v2 M = some Rr → sd_B X d sd_q_X0_leave 61 [(0, .inr (.inr (some (this)))), (1, .inl (v1)), (2, .inl (v2))] [] M (none, sd_rp Rr.2, 0, 0)) (v1 : Int) (v2 : Int) (v3 : Int) (M : sd_M) (Rr : Int × sd_M) (h : f_X0_leave_55 k22 k61 this v1 v2 v3 M = some Rr) : sd_B X d sd_q_X0_leave 55 [(0, .inr (.inr (some (this)))), (1, .inl (v1)), (2, .inl (v2)), (3, .inl (v3))] [] M (none, sd_rp Rr.2, 0, 0) := by
  unfold f_X0_leave_55 at h
  refine sd_b_go 2 (pc2 := 22) (lv2 := [(3, .inl (sd_w (v3 + 1))), (0, .inr (.inr (some (this)))), (1, .inl (v1)), (2, .inl (v2))]) (st2 := []) rfl ?_
  refine sd_b_wk [(0, .inr (.inr (some (this)))), (1, .inl (v1)), (2, .inl (v2)), (3, .inl (sd_w (v3 + 1)))] (List.forall_mem_cons.mpr ⟨rfl, (List.forall_mem_cons.mpr ⟨rfl, (List.forall_mem_cons.mpr ⟨rfl, (List.forall_mem_cons.mpr ⟨rfl, (fun _ h0 => absurd h0 List.not_mem_nil)⟩)⟩)⟩)⟩) ?_
  exact hk22 v1 v2 (sd_w (v3 + 1)) M _ h
def f_X0_leave_22 (k61 : Int → Int → sd_M → Option (Int × sd_M)) (this : Nat) : Nat → Int → Int → Int → sd_M → Option (Int × sd_M)
  | 0, _, _, _, _ => none
  | n + 1, v1, v2, v3, M => if (M this 3) ≤ v3 then (k61 v1 v2 M) else (if 0 ≤ v3 ∧ v3 < 9 then (if (M (this + 6) v3.toNat) = v1 then (f_X0_leave_55 (f_X0_leave_22 k61 this n) k61 this v1 v2 v3 M) else (if 0 ≤ v3 ∧ v3 < 9 then (if 0 ≤ v2 ∧ v2 < 9 then (f_X0_leave_55 (f_X0_leave_22 k61 this n) k61 this v1 (sd_w (v2 + 1)) v3 (sd_s M (this + 6) v2.toNat (M (this + 6) v3.toNat))) else none) else none)) else none)
set_option maxRecDepth 4000 in
theorem t_X0_leave_22 {X : Nat → List sd_V → List sd_E → sd_A → Prop} {d : Nat} (hd : 3 ≤ d) (this : Nat) (h_this : sd_o this 0) (k61 : Int → Int → sd_M → Option (Int × sd_M)) (hk61 : ∀ (v1 : Int) (v2 : Int) (M : sd_M) (Rr : Int × sd_M), k61 v1 v2 M = some Rr → sd_B X d sd_q_X0_leave 61 [(0, .inr (.inr (some (this)))), (1, .inl (v1)), (2, .inl (v2))] [] M (none, sd_rp Rr.2, 0, 0)) : ∀ (n : Nat) (v1 : Int) (v2 : Int) (v3 : Int) (M : sd_M) (Rr : Int × sd_M), f_X0_leave_22 k61 this n v1 v2 v3 M = some Rr → sd_B X d sd_q_X0_leave 22 [(0, .inr (.inr (some (this)))), (1, .inl (v1)), (2, .inl (v2)), (3, .inl (v3))] [] M (none, sd_rp Rr.2, 0, 0) := by
  intro n
  induction n with
  | zero => intro v1 v2 v3 M Rr h; cases h
  | succ n ih =>
    intro v1 v2 v3 M Rr h
    rw [f_X0_leave_22] at h
    refine sd_b_go 2 (pc2 := 24) (lv2 := [(0, .inr (.inr (some (this)))), (1, .inl (v1)), (2, .inl (v2)), (3, .inl (v3))]) (st2 := [.inr (.inr (some (this))), .inl (v3)]) rfl ?_
    refine sd_b_gi (k := 3) h_this rfl rfl rfl ?_
    by_cases c1 : (M this 3) ≤ v3
    · rw [if_pos c1] at h
      refine sd_b_ct (c := .ge) (tgt := 61) rfl (decide_eq_true c1) (by decide) ?_
      refine sd_b_wk [(0, .inr (.inr (some (this)))), (1, .inl (v1)), (2, .inl (v2))] (List.forall_mem_cons.mpr ⟨rfl, (List.forall_mem_cons.mpr ⟨rfl, (List.forall_mem_cons.mpr ⟨rfl, (fun _ h0 => absurd h0 List.not_mem_nil)⟩)⟩)⟩) ?_
      exact hk61 v1 v2 M _ h
    · rw [if_neg c1] at h
      refine sd_b_cf (c := .ge) rfl (decide_eq_false c1) (by decide) ?_
      refine sd_b_go 1 (pc2 := 31) (lv2 := [(0, .inr (.inr (some (this)))), (1, .inl (v1)), (2, .inl (v2)), (3, .inl (v3))]) (st2 := [.inr (.inr (some (this)))]) rfl ?_
      refine sd_b_gr (k := 10) h_this rfl rfl rfl ?_
      refine sd_b_go 1 (pc2 := 35) (lv2 := [(0, .inr (.inr (some (this)))), (1, .inl (v1)), (2, .inl (v2)), (3, .inl (v3))]) (st2 := [.inl (v3), .inr (.inr (some (this + 6)))]) rfl ?_
      obtain ⟨g2, h⟩ := sd_if h
      refine sd_b_ai (sd_oa h_this (by decide) (off := 6) (List.mem_of_getElem? (i := 5) rfl)) g2 rfl ?_
      refine sd_b_go 1 (pc2 := 37) (lv2 := [(0, .inr (.inr (some (this)))), (1, .inl (v1)), (2, .inl (v2)), (3, .inl (v3))]) (st2 := [.inl (v1), .inl (M (this + 6) v3.toNat)]) rfl ?_
      by_cases c3 : (M (this + 6) v3.toNat) = v1
      · rw [if_pos c3] at h
        refine sd_b_ct (c := .eq) (tgt := 55) rfl (decide_eq_true c3) (by decide) ?_
        refine sd_b_wk [(0, .inr (.inr (some (this)))), (1, .inl (v1)), (2, .inl (v2)), (3, .inl (v3))] (List.forall_mem_cons.mpr ⟨rfl, (List.forall_mem_cons.mpr ⟨rfl, (List.forall_mem_cons.mpr ⟨rfl, (List.forall_mem_cons.mpr ⟨rfl, (fun _ h0 => absurd h0 List.not_mem_nil)⟩)⟩)⟩)⟩) ?_
        exact t_X0_leave_55 hd this h_this (f_X0_leave_22 k61 this n) k61 ih hk61 v1 v2 v3 M _ h
      · rw [if_neg c3] at h
        refine sd_b_cf (c := .eq) rfl (decide_eq_false c3) (by decide) ?_
        refine sd_b_go 1 (pc2 := 41) (lv2 := [(0, .inr (.inr (some (this)))), (1, .inl (v1)), (2, .inl (v2)), (3, .inl (v3))]) (st2 := [.inr (.inr (some (this)))]) rfl ?_
        refine sd_b_gr (k := 10) h_this rfl rfl rfl ?_
        refine sd_b_go 2 (pc2 := 46) (lv2 := [(0, .inr (.inr (some (this)))), (1, .inl (v1)), (2, .inl (v2)), (3, .inl (v3))]) (st2 := [.inr (.inr (some (this))), .inl (v2), .inr (.inr (some (this + 6)))]) rfl ?_
        refine sd_b_gr (k := 10) h_this rfl rfl rfl ?_
        refine sd_b_go 1 (pc2 := 50) (lv2 := [(0, .inr (.inr (some (this)))), (1, .inl (v1)), (2, .inl (v2)), (3, .inl (v3))]) (st2 := [.inl (v3), .inr (.inr (some (this + 6))), .inl (v2), .inr (.inr (some (this + 6)))]) rfl ?_
        obtain ⟨g4, h⟩ := sd_if h
        refine sd_b_ai (sd_oa h_this (by decide) (off := 6) (List.mem_of_getElem? (i := 5) rfl)) g4 rfl ?_
        obtain ⟨g5, h⟩ := sd_if h
        refine sd_b_si (sd_oa h_this (by decide) (off := 6) (List.mem_of_getElem? (i := 5) rfl)) g5 rfl ?_
        refine sd_b_go 1 (pc2 := 55) (lv2 := [(2, .inl (sd_w (v2 + 1))), (0, .inr (.inr (some (this)))), (1, .inl (v1)), (3, .inl (v3))]) (st2 := []) rfl ?_
        refine sd_b_wk [(0, .inr (.inr (some (this)))), (1, .inl (v1)), (2, .inl (sd_w (v2 + 1))), (3, .inl (v3))] (List.forall_mem_cons.mpr ⟨rfl, (List.forall_mem_cons.mpr ⟨rfl, (List.forall_mem_cons.mpr ⟨rfl, (List.forall_mem_cons.mpr ⟨rfl, (fun _ h0 => absurd h0 List.not_mem_nil)⟩)⟩)⟩)⟩) ?_
        exact t_X0_leave_55 hd this h_this (f_X0_leave_22 k61 this n) k61 ih hk61 v1 (sd_w (v2 + 1)) v3 (sd_s M (this + 6) v2.toNat (M (this + 6) v3.toNat)) _ h
def f_X0_leave_61 (this : Nat) (v1 : Int) (v2 : Int) (M : sd_M) : Option (Int × sd_M) := if 0 ≤ v1 ∧ v1 < 9 then (if 0 ≤ v1 ∧ v1 < 9 then (if 0 ≤ (sd_s (sd_s (sd_s M this 3 v2) (this + 3) v1.toNat 2) (this + 4) v1.toNat 0 this 4) ∧ (sd_s (sd_s (sd_s M this 3 v2) (this + 3) v1.toNat 2) (this + 4) v1.toNat 0 this 4) < 9 then ((f_X0_sign this (sd_s (sd_s (sd_s (sd_s (sd_s M this 3 v2) (this + 3) v1.toNat 2) (this + 4) v1.toNat 0) (this + 7) (sd_s (sd_s (sd_s M this 3 v2) (this + 3) v1.toNat 2) (this + 4) v1.toNat 0 this 4).toNat v1) this 4 (sd_w ((sd_s (sd_s (sd_s (sd_s M this 3 v2) (this + 3) v1.toNat 2) (this + 4) v1.toNat 0) (this + 7) (sd_s (sd_s (sd_s M this 3 v2) (this + 3) v1.toNat 2) (this + 4) v1.toNat 0 this 4).toNat v1 this 4) + 1)))).bind fun r4 => some (0, r4.2)) else none) else none) else none
set_option maxRecDepth 4000 in
theorem t_X0_leave_61 {X : Nat → List sd_V → List sd_E → sd_A → Prop} {d : Nat} (hd : 3 ≤ d) (this : Nat) (h_this : sd_o this 0) (v1 : Int) (v2 : Int) (M : sd_M) (Rr : Int × sd_M) (h : f_X0_leave_61 this v1 v2 M = some Rr) : sd_B X d sd_q_X0_leave 61 [(0, .inr (.inr (some (this)))), (1, .inl (v1)), (2, .inl (v2))] [] M (none, sd_rp Rr.2, 0, 0) := by
  unfold f_X0_leave_61 at h
  refine sd_b_go 2 (pc2 := 63) (lv2 := [(0, .inr (.inr (some (this)))), (1, .inl (v1)), (2, .inl (v2))]) (st2 := [.inl (v2), .inr (.inr (some (this)))]) rfl ?_
  refine sd_b_pi (k := 3) h_this rfl rfl rfl rfl rfl ?_
  refine sd_b_go 1 (pc2 := 67) (lv2 := [(0, .inr (.inr (some (this)))), (1, .inl (v1)), (2, .inl (v2))]) (st2 := [.inr (.inr (some (this)))]) rfl ?_
  refine sd_b_gr (k := 7) h_this rfl rfl rfl ?_
  refine sd_b_go 2 (pc2 := 72) (lv2 := [(0, .inr (.inr (some (this)))), (1, .inl (v1)), (2, .inl (v2))]) (st2 := [.inl (2), .inl (v1), .inr (.inr (some (this + 3)))]) rfl ?_
  obtain ⟨g1, h⟩ := sd_if h
  refine sd_b_si (sd_oa h_this (by decide) (off := 3) (List.mem_of_getElem? (i := 2) rfl)) g1 rfl ?_
  refine sd_b_go 1 (pc2 := 74) (lv2 := [(0, .inr (.inr (some (this)))), (1, .inl (v1)), (2, .inl (v2))]) (st2 := [.inr (.inr (some (this)))]) rfl ?_
  refine sd_b_gr (k := 8) h_this rfl rfl rfl ?_
  refine sd_b_go 2 (pc2 := 79) (lv2 := [(0, .inr (.inr (some (this)))), (1, .inl (v1)), (2, .inl (v2))]) (st2 := [.inl (0), .inl (v1), .inr (.inr (some (this + 4)))]) rfl ?_
  obtain ⟨g2, h⟩ := sd_if h
  refine sd_b_si (sd_oa h_this (by decide) (off := 4) (List.mem_of_getElem? (i := 3) rfl)) g2 rfl ?_
  refine sd_b_go 1 (pc2 := 81) (lv2 := [(0, .inr (.inr (some (this)))), (1, .inl (v1)), (2, .inl (v2))]) (st2 := [.inr (.inr (some (this)))]) rfl ?_
  refine sd_b_gr (k := 11) h_this rfl rfl rfl ?_
  refine sd_b_go 1 (pc2 := 85) (lv2 := [(0, .inr (.inr (some (this)))), (1, .inl (v1)), (2, .inl (v2))]) (st2 := [.inr (.inr (some (this))), .inr (.inr (some (this + 7)))]) rfl ?_
  refine sd_b_gi (k := 4) h_this rfl rfl rfl ?_
  refine sd_b_go 1 (pc2 := 89) (lv2 := [(0, .inr (.inr (some (this)))), (1, .inl (v1)), (2, .inl (v2))]) (st2 := [.inl (v1), .inl (sd_s (sd_s (sd_s M this 3 v2) (this + 3) v1.toNat 2) (this + 4) v1.toNat 0 this 4), .inr (.inr (some (this + 7)))]) rfl ?_
  obtain ⟨g3, h⟩ := sd_if h
  refine sd_b_si (sd_oa h_this (by decide) (off := 7) (List.mem_of_getElem? (i := 6) rfl)) g3 rfl ?_
  refine sd_b_go 2 (pc2 := 92) (lv2 := [(0, .inr (.inr (some (this)))), (1, .inl (v1)), (2, .inl (v2))]) (st2 := [.inr (.inr (some (this))), .inr (.inr (some (this)))]) rfl ?_
  refine sd_b_gi (k := 4) h_this rfl rfl rfl ?_
  refine sd_b_go 2 (pc2 := 97) (lv2 := [(0, .inr (.inr (some (this)))), (1, .inl (v1)), (2, .inl (v2))]) (st2 := [.inl (sd_w ((sd_s (sd_s (sd_s (sd_s M this 3 v2) (this + 3) v1.toNat 2) (this + 4) v1.toNat 0) (this + 7) (sd_s (sd_s (sd_s M this 3 v2) (this + 3) v1.toNat 2) (this + 4) v1.toNat 0 this 4).toNat v1 this 4) + 1)), .inr (.inr (some (this)))]) rfl ?_
  refine sd_b_pi (k := 4) h_this rfl rfl rfl rfl rfl ?_
  refine sd_b_go 1 (pc2 := 101) (lv2 := [(0, .inr (.inr (some (this)))), (1, .inl (v1)), (2, .inl (v2))]) (st2 := [.inr (.inr (some (this)))]) rfl ?_
  obtain ⟨r4, e4, h⟩ := sd_bnd h
  refine sd_b_call [.inr (.inr (some (this)))] [] rfl rfl sd_i_X0_sign rfl rfl (Nat.le_of_ble_eq_true rfl) (sd_rc_v h_this) (m_X0_sign (by omega) h_this e4) ?_
  cases h
  exact sd_b_rt rfl rfl rfl
def f_X0_leave (this : Nat) (p1 : Int) (M : sd_M) : Option (Int × sd_M) := (f_X0_isOn this p1 M).bind fun r1 => if r1.1 = 0 then (some (0, r1.2)) else (if (r1.2 this 4) < 9 then (f_X0_leave_22 (f_X0_leave_61 this) this 4000 p1 0 0 r1.2) else (some (0, r1.2)))
set_option maxRecDepth 4000 in
theorem t_X0_leave {X : Nat → List sd_V → List sd_E → sd_A → Prop} {d : Nat} (hd : 3 ≤ d) (this : Nat) (h_this : sd_o this 0) (p1 : Int) (M : sd_M) (Rr : Int × sd_M) (h : f_X0_leave this p1 M = some Rr) : sd_B X d sd_q_X0_leave 0 [(0, .inr (.inr (some (this)))), (1, .inl (p1))] [] M (none, sd_rp Rr.2, 0, 0) := by
  unfold f_X0_leave at h
  refine sd_b_go 2 (pc2 := 2) (lv2 := [(0, .inr (.inr (some (this)))), (1, .inl (p1))]) (st2 := [.inl (p1), .inr (.inr (some (this)))]) rfl ?_
  obtain ⟨r1, e1, h⟩ := sd_bnd h
  refine sd_b_call [.inr (.inr (some (this))), .inl (p1)] [] rfl rfl sd_i_X0_isOn rfl rfl (Nat.le_of_ble_eq_true rfl) (sd_rc_v h_this) (m_X0_isOn (by omega) h_this e1) ?_
  by_cases c2 : r1.1 = 0
  · rw [if_pos c2] at h
    refine sd_b_zt (c := .eq) (tgt := 17) rfl (decide_eq_true c2) (by decide) ?_
    cases h
    exact sd_b_rt rfl rfl rfl
  · rw [if_neg c2] at h
    refine sd_b_zf (c := .eq) rfl (decide_eq_false c2) (by decide) ?_
    refine sd_b_go 1 (pc2 := 9) (lv2 := [(0, .inr (.inr (some (this)))), (1, .inl (p1))]) (st2 := [.inr (.inr (some (this)))]) rfl ?_
    refine sd_b_gi (k := 4) h_this rfl rfl rfl ?_
    refine sd_b_go 1 (pc2 := 14) (lv2 := [(0, .inr (.inr (some (this)))), (1, .inl (p1))]) (st2 := [.inl (9), .inl (r1.2 this 4)]) rfl ?_
    by_cases c3 : (r1.2 this 4) < 9
    · rw [if_pos c3] at h
      refine sd_b_ct (c := .lt) (tgt := 18) rfl (decide_eq_true c3) (by decide) ?_
      refine sd_b_go 4 (pc2 := 22) (lv2 := [(3, .inl (0)), (2, .inl (0)), (0, .inr (.inr (some (this)))), (1, .inl (p1))]) (st2 := []) rfl ?_
      refine sd_b_wk [(0, .inr (.inr (some (this)))), (1, .inl (p1)), (2, .inl (0)), (3, .inl (0))] (List.forall_mem_cons.mpr ⟨rfl, (List.forall_mem_cons.mpr ⟨rfl, (List.forall_mem_cons.mpr ⟨rfl, (List.forall_mem_cons.mpr ⟨rfl, (fun _ h0 => absurd h0 List.not_mem_nil)⟩)⟩)⟩)⟩) ?_
      exact t_X0_leave_22 hd this h_this (f_X0_leave_61 this) (t_X0_leave_61 hd this h_this) 4000 p1 0 0 r1.2 _ h
    · rw [if_neg c3] at h
      refine sd_b_cf (c := .lt) rfl (decide_eq_false c3) (by decide) ?_
      cases h
      exact sd_b_rt rfl rfl rfl
theorem m_X0_leave {X : Nat → List sd_V → List sd_E → sd_A → Prop} {d : Nat} (hd : 4 ≤ d) {this : Nat} (h_this : sd_o this 0) {p1 : Int} {M : sd_M} {Rr : Int × sd_M} (h : f_X0_leave this p1 M = some Rr) : sd_Cal X d 11 [.inr (.inr (some (this))), .inl (p1)] (sd_rp M) (none, sd_rp Rr.2, 0, 0) := by
  obtain ⟨d, rfl⟩ : ∃ d2, d = d2 + 1 := ⟨d - 1, by omega⟩
  exact sd_cal_of sd_i_X0_leave (Nat.le_of_ble_eq_true rfl) (t_X0_leave (by omega) this h_this p1 M Rr h)
-- X0_settle
def sd_q_X0_settle : sd_MI := (yX0_settle, cX0_settle, 5, (some .int), 0, 1, sd_t_X0_settle)
set_option maxRecDepth 4000 in
theorem sd_i_X0_settle : sd_mL[13]? = some sd_q_X0_settle := rfl
def f_X0_settle_7 (k26 : Int → sd_M → Option (Int × sd_M)) (k41 : Int → sd_M → Option (Int × sd_M)) (this : Nat) : Nat → Int → Int → sd_M → Option (Int × sd_M)
  | 0, _, _, _ => none
  | n + 1, v2, v3, M => if 9 ≤ v3 then (k41 v2 M) else ((f_X0_firstInNeed this M).bind fun r2 => if r2.1 = ((-1)) then (k26 v2 r2.2) else ((f_X0_leave this r2.1 r2.2).bind fun r4 => f_X0_settle_7 k26 k41 this n v2 (sd_w (v3 + 1)) r4.2))
set_option maxRecDepth 4000 in
theorem t_X0_settle_7 {X : Nat → List sd_V → List sd_E → sd_A → Prop} {d : Nat} (hd : 4 ≤ d) (this : Nat) (h_this : sd_o this 0) (k26 : Int → sd_M → Option (Int × sd_M)) (k41 : Int → sd_M → Option (Int × sd_M)) (hk26 : ∀ (v2 : Int) (M : sd_M) (Rr : Int × sd_M), k26 v2 M = some Rr → sd_B X d sd_q_X0_settle 26 [(0, .inr (.inr (some (this)))), (2, .inl (v2))] [] M (some (.inl Rr.1), sd_rp Rr.2, 0, 0)) (hk41 : ∀ (v2 : Int) (M : sd_M) (Rr : Int × sd_M), k41 v2 M = some Rr → sd_B X d sd_q_X0_settle 41 [(0, .inr (.inr (some (this)))), (2, .inl (v2))] [] M (some (.inl Rr.1), sd_rp Rr.2, 0, 0)) : ∀ (n : Nat) (v2 : Int) (v3 : Int) (M : sd_M) (Rr : Int × sd_M), f_X0_settle_7 k26 k41 this n v2 v3 M = some Rr → sd_B X d sd_q_X0_settle 7 [(0, .inr (.inr (some (this)))), (1, .inr (.inr (some (59)))), (2, .inl (v2)), (3, .inl (v3))] [] M (some (.inl Rr.1), sd_rp Rr.2, 0, 0) := by
  intro n
  induction n with
  | zero => intro v2 v3 M Rr h; cases h
  | succ n ih =>
    intro v2 v3 M Rr h
    rw [f_X0_settle_7] at h
    refine sd_b_go 2 (pc2 := 10) (lv2 := [(0, .inr (.inr (some (this)))), (1, .inr (.inr (some (59)))), (2, .inl (v2)), (3, .inl (v3))]) (st2 := [.inl (9), .inl (v3)]) rfl ?_
    by_cases c1 : 9 ≤ v3
    · rw [if_pos c1] at h
      refine sd_b_ct (c := .ge) (tgt := 41) rfl (decide_eq_true c1) (by decide) ?_
      refine sd_b_wk [(0, .inr (.inr (some (this)))), (2, .inl (v2))] (List.forall_mem_cons.mpr ⟨rfl, (List.forall_mem_cons.mpr ⟨rfl, (fun _ h0 => absurd h0 List.not_mem_nil)⟩)⟩) ?_
      exact hk41 v2 M _ h
    · rw [if_neg c1] at h
      refine sd_b_cf (c := .ge) rfl (decide_eq_false c1) (by decide) ?_
      refine sd_b_go 2 (pc2 := 15) (lv2 := [(0, .inr (.inr (some (this)))), (1, .inr (.inr (some (59)))), (2, .inl (v2)), (3, .inl (v3))]) (st2 := [.inr (.inr (some (59))), .inr (.inr (some (this)))]) rfl ?_
      obtain ⟨r2, e2, h⟩ := sd_bnd h
      refine sd_b_call [.inr (.inr (some (this))), .inr (.inr (some (59)))] [] rfl rfl sd_i_X0_firstInNeed rfl rfl (Nat.le_of_ble_eq_true rfl) (sd_rc_v h_this) (m_X0_firstInNeed (by omega) h_this e2) ?_
      refine sd_b_go 3 (pc2 := 23) (lv2 := [(4, .inl (r2.1)), (0, .inr (.inr (some (this)))), (1, .inr (.inr (some (59)))), (2, .inl (v2)), (3, .inl (v3))]) (st2 := [.inl ((-1)), .inl (r2.1)]) rfl ?_
      by_cases c3 : r2.1 = ((-1))
      · rw [if_pos c3] at h
        refine sd_b_cf (c := .ne) rfl (decide_eq_false (not_not_intro c3)) (by decide) ?_
        refine sd_b_wk [(0, .inr (.inr (some (this)))), (2, .inl (v2))] (List.forall_mem_cons.mpr ⟨rfl, (List.forall_mem_cons.mpr ⟨rfl, (fun _ h0 => absurd h0 List.not_mem_nil)⟩)⟩) ?_
        exact hk26 v2 r2.2 _ h
      · rw [if_neg c3] at h
        refine sd_b_ct (c := .ne) (tgt := 29) rfl (decide_eq_true c3) (by decide) ?_
        refine sd_b_go 2 (pc2 := 32) (lv2 := [(4, .inl (r2.1)), (0, .inr (.inr (some (this)))), (1, .inr (.inr (some (59)))), (2, .inl (v2)), (3, .inl (v3))]) (st2 := [.inl (r2.1), .inr (.inr (some (this)))]) rfl ?_
        obtain ⟨r4, e4, h⟩ := sd_bnd h
        refine sd_b_call [.inr (.inr (some (this))), .inl (r2.1)] [] rfl rfl sd_i_X0_leave rfl rfl (Nat.le_of_ble_eq_true rfl) (sd_rc_v h_this) (m_X0_leave (by omega) h_this e4) ?_
        refine sd_b_go 2 (pc2 := 7) (lv2 := [(3, .inl (sd_w (v3 + 1))), (4, .inl (r2.1)), (0, .inr (.inr (some (this)))), (1, .inr (.inr (some (59)))), (2, .inl (v2))]) (st2 := []) rfl ?_
        refine sd_b_wk [(0, .inr (.inr (some (this)))), (1, .inr (.inr (some (59)))), (2, .inl (v2)), (3, .inl (sd_w (v3 + 1)))] (List.forall_mem_cons.mpr ⟨rfl, (List.forall_mem_cons.mpr ⟨rfl, (List.forall_mem_cons.mpr ⟨rfl, (List.forall_mem_cons.mpr ⟨rfl, (fun _ h0 => absurd h0 List.not_mem_nil)⟩)⟩)⟩)⟩) ?_
        exact ih v2 (sd_w (v3 + 1)) r4.2 _ h
def f_X0_settle_41 (this : Nat) (v2 : Int) (M : sd_M) : Option (Int × sd_M) := some (sd_w ((M this 4) - v2), M)
set_option maxRecDepth 4000 in
theorem t_X0_settle_41 {X : Nat → List sd_V → List sd_E → sd_A → Prop} {d : Nat} (hd : 4 ≤ d) (this : Nat) (h_this : sd_o this 0) (v2 : Int) (M : sd_M) (Rr : Int × sd_M) (h : f_X0_settle_41 this v2 M = some Rr) : sd_B X d sd_q_X0_settle 41 [(0, .inr (.inr (some (this)))), (2, .inl (v2))] [] M (some (.inl Rr.1), sd_rp Rr.2, 0, 0) := by
  unfold f_X0_settle_41 at h
  refine sd_b_go 1 (pc2 := 42) (lv2 := [(0, .inr (.inr (some (this)))), (2, .inl (v2))]) (st2 := [.inr (.inr (some (this)))]) rfl ?_
  refine sd_b_gi (k := 4) h_this rfl rfl rfl ?_
  refine sd_b_go 2 (pc2 := 47) (lv2 := [(0, .inr (.inr (some (this)))), (2, .inl (v2))]) (st2 := [.inl (sd_w ((M this 4) - v2))]) rfl ?_
  cases h
  exact sd_b_rt rfl rfl rfl
def f_X0_settle_26 (this : Nat) (v2 : Int) (M : sd_M) : Option (Int × sd_M) := f_X0_settle_41 this v2 M
set_option maxRecDepth 4000 in
theorem t_X0_settle_26 {X : Nat → List sd_V → List sd_E → sd_A → Prop} {d : Nat} (hd : 4 ≤ d) (this : Nat) (h_this : sd_o this 0) (v2 : Int) (M : sd_M) (Rr : Int × sd_M) (h : f_X0_settle_26 this v2 M = some Rr) : sd_B X d sd_q_X0_settle 26 [(0, .inr (.inr (some (this)))), (2, .inl (v2))] [] M (some (.inl Rr.1), sd_rp Rr.2, 0, 0) := by
  unfold f_X0_settle_26 at h
  refine sd_b_go 1 (pc2 := 41) (lv2 := [(0, .inr (.inr (some (this)))), (2, .inl (v2))]) (st2 := []) rfl ?_
  refine sd_b_wk [(0, .inr (.inr (some (this)))), (2, .inl (v2))] (List.forall_mem_cons.mpr ⟨rfl, (List.forall_mem_cons.mpr ⟨rfl, (fun _ h0 => absurd h0 List.not_mem_nil)⟩)⟩) ?_
  exact t_X0_settle_41 hd this h_this v2 M _ h
def f_X0_settle (this : Nat) (M : sd_M) : Option (Int × sd_M) := f_X0_settle_7 (f_X0_settle_26 this) (f_X0_settle_41 this) this 4000 (M this 4) 0 M
set_option maxRecDepth 4000 in
theorem t_X0_settle {X : Nat → List sd_V → List sd_E → sd_A → Prop} {d : Nat} (hd : 4 ≤ d) (this : Nat) (h_this : sd_o this 0) (M : sd_M) (Rr : Int × sd_M) (h : f_X0_settle this M = some Rr) : sd_B X d sd_q_X0_settle 0 [(0, .inr (.inr (some (this)))), (1, .inr (.inr (some (59))))] [] M (some (.inl Rr.1), sd_rp Rr.2, 0, 0) := by
  unfold f_X0_settle at h
  refine sd_b_go 1 (pc2 := 1) (lv2 := [(0, .inr (.inr (some (this)))), (1, .inr (.inr (some (59))))]) (st2 := [.inr (.inr (some (this)))]) rfl ?_
  refine sd_b_gi (k := 4) h_this rfl rfl rfl ?_
  refine sd_b_go 3 (pc2 := 7) (lv2 := [(3, .inl (0)), (2, .inl (M this 4)), (0, .inr (.inr (some (this)))), (1, .inr (.inr (some (59))))]) (st2 := []) rfl ?_
  refine sd_b_wk [(0, .inr (.inr (some (this)))), (1, .inr (.inr (some (59)))), (2, .inl (M this 4)), (3, .inl (0))] (List.forall_mem_cons.mpr ⟨rfl, (List.forall_mem_cons.mpr ⟨rfl, (List.forall_mem_cons.mpr ⟨rfl, (List.forall_mem_cons.mpr ⟨rfl, (fun _ h0 => absurd h0 List.not_mem_nil)⟩)⟩)⟩)⟩) ?_
  exact t_X0_settle_7 hd this h_this (f_X0_settle_26 this) (f_X0_settle_41 this) (t_X0_settle_26 hd this h_this) (t_X0_settle_41 hd this h_this) 4000 (M this 4) 0 M _ h
theorem m_X0_settle {X : Nat → List sd_V → List sd_E → sd_A → Prop} {d : Nat} (hd : 5 ≤ d) {this : Nat} (h_this : sd_o this 0) {M : sd_M} {Rr : Int × sd_M} (h : f_X0_settle this M = some Rr) : sd_Cal X d 13 [.inr (.inr (some (this))), .inr (.inr (some (59)))] (sd_rp M) (some (.inl Rr.1), sd_rp Rr.2, 0, 0) := by
  obtain ⟨d, rfl⟩ : ∃ d2, d = d2 + 1 := ⟨d - 1, by omega⟩
  exact sd_cal_of sd_i_X0_settle (Nat.le_of_ble_eq_true rfl) (t_X0_settle (by omega) this h_this M Rr h)
-- X1_choose
def sd_q_X1_choose : sd_MI := (yX1_choose, cX1_choose, 11, (some .int), 1, 3, sd_t_X1_choose)
set_option maxRecDepth 4000 in
theorem sd_i_X1_choose : sd_mL[22]? = some sd_q_X1_choose := rfl
def f_X1_choose_140 (k45 : Int → Int → Int → Int → sd_M → Option (Int × sd_M)) (book : Nat) (rls : Nat) (v4 : Int) (v5 : Int) (v6 : Int) (v8 : Int) (M : sd_M) : Option (Int × sd_M) := k45 v4 v5 v6 (sd_w (v8 + 1)) M
set_option maxRecDepth 4000 in
theorem t_X1_choose_140 {X : Nat → List sd_V → List sd_E → sd_A → Prop} {d : Nat} (hd : 3 ≤ d) (book : Nat) (rls : Nat) (h_book : sd_o book 0) (h_rls : sd_o rls 4) (k45 : Int → Int → Int → Int → sd_M → Option (Int × sd_M)) (hk45 : ∀ (v4 : Int) (v5 : Int) (v6 : Int) (v8 : Int) (M : sd_M) (Rr : Int × sd_M), k45 v4 v5 v6 v8 M = some Rr → sd_B X d sd_q_X1_choose 45 [(0, .inr (.inr (some (316)))), (1, .inr (.inr (some (book)))), (2, .inr (.inr (some (59)))), (3, .inr (.inr (some (rls)))), (4, .inl (v4)), (5, .inl (v5)), (6, .inr (.inl (v6))), (8, .inl (v8))] [] M (some (.inl Rr.1), sd_rp Rr.2, 0, 0)) (v4 : Int) (v5 : Int) (v6 : Int) (v8 : Int) (M : sd_M) (Rr : Int × sd_M) (h : f_X1_choose_140 k45 book rls v4 v5 v6 v8 M = some Rr) : sd_B X d sd_q_X1_choose 140 [(0, .inr (.inr (some (316)))), (1, .inr (.inr (some (book)))), (2, .inr (.inr (some (59)))), (3, .inr (.inr (some (rls)))), (4, .inl (v4)), (5, .inl (v5)), (6, .inr (.inl (v6))), (8, .inl (v8))] [] M (some (.inl Rr.1), sd_rp Rr.2, 0, 0) := by
  unfold f_X1_choose_140 at h
  refine sd_b_go 2 (pc2 := 45) (lv2 := [(8, .inl (sd_w (v8 + 1))), (0, .inr (.inr (some (316)))), (1, .inr (.inr (some (book)))), (2, .inr (.inr (some (59)))), (3, .inr (.inr (some (rls)))), (4, .inl (v4)), (5, .inl (v5)), (6, .inr (.inl (v6)))]) (st2 := []) rfl ?_
  refine sd_b_wk [(0, .inr (.inr (some (316)))), (1, .inr (.inr (some (book)))), (2, .inr (.inr (some (59)))), (3, .inr (.inr (some (rls)))), (4, .inl (v4)), (5, .inl (v5)), (6, .inr (.inl (v6))), (8, .inl (sd_w (v8 + 1)))] (List.forall_mem_cons.mpr ⟨rfl, (List.forall_mem_cons.mpr ⟨rfl, (List.forall_mem_cons.mpr ⟨rfl, (List.forall_mem_cons.mpr ⟨rfl, (List.forall_mem_cons.mpr ⟨rfl, (List.forall_mem_cons.mpr ⟨rfl, (List.forall_mem_cons.mpr ⟨rfl, (List.forall_mem_cons.mpr ⟨rfl, (fun _ h0 => absurd h0 List.not_mem_nil)⟩)⟩)⟩)⟩)⟩)⟩)⟩)⟩) ?_
  exact hk45 v4 v5 v6 (sd_w (v8 + 1)) M _ h
def f_X1_choose_45 (book : Nat) (rls : Nat) : Nat → Int → Int → Int → Int → sd_M → Option (Int × sd_M)
  | 0, _, _, _, _, _ => none
  | n + 1, v4, v5, v6, v8, M => if 9 ≤ v8 then (some (v5, M)) else (if (sd_and (sd_shr (v4) (v8)) (1)) = 1 then (if 0 ≤ v8 ∧ v8 < 9 then (if 0 ≤ v8 ∧ v8 < 9 then (if 0 ≤ v8 ∧ v8 < 9 then ((f_X4_worth rls (sd_s (sd_s (sd_s (sd_s M 317 0 v8) 317 1 ((sd_s M 317 0 v8) (book + 1) v8.toNat)) 317 2 ((sd_s (sd_s M 317 0 v8) 317 1 ((sd_s M 317 0 v8) (book + 1) v8.toNat)) (book + 2) v8.toNat)) 317 3 ((sd_s (sd_s (sd_s M 317 0 v8) 317 1 ((sd_s M 317 0 v8) (book + 1) v8.toNat)) 317 2 ((sd_s (sd_s M 317 0 v8) 317 1 ((sd_s M 317 0 v8) (book + 1) v8.toNat)) (book + 2) v8.toNat)) 62 v8.toNat))).bind fun r6 => if (sd_cmpl r6.1 v6) ≤ 0 then (f_X1_choose_140 (f_X1_choose_45 book rls n) book rls v4 v5 v6 v8 r6.2) else (f_X1_choose_140 (f_X1_choose_45 book rls n) book rls v4 v8 r6.1 v8 r6.2)) else none) else none) else none) else (f_X1_choose_140 (f_X1_choose_45 book rls n) book rls v4 v5 v6 v8 M))
set_option maxRecDepth 4000 in
theorem t_X1_choose_45 {X : Nat → List sd_V → List sd_E → sd_A → Prop} {d : Nat} (hd : 3 ≤ d) (book : Nat) (rls : Nat) (h_book : sd_o book 0) (h_rls : sd_o rls 4) : ∀ (n : Nat) (v4 : Int) (v5 : Int) (v6 : Int) (v8 : Int) (M : sd_M) (Rr : Int × sd_M), f_X1_choose_45 book rls n v4 v5 v6 v8 M = some Rr → sd_B X d sd_q_X1_choose 45 [(0, .inr (.inr (some (316)))), (1, .inr (.inr (some (book)))), (2, .inr (.inr (some (59)))), (3, .inr (.inr (some (rls)))), (4, .inl (v4)), (5, .inl (v5)), (6, .inr (.inl (v6))), (8, .inl (v8))] [] M (some (.inl Rr.1), sd_rp Rr.2, 0, 0) := by
  intro n
  induction n with
  | zero => intro v4 v5 v6 v8 M Rr h; cases h
  | succ n ih =>
    intro v4 v5 v6 v8 M Rr h
    rw [f_X1_choose_45] at h
    refine sd_b_go 2 (pc2 := 49) (lv2 := [(0, .inr (.inr (some (316)))), (1, .inr (.inr (some (book)))), (2, .inr (.inr (some (59)))), (3, .inr (.inr (some (rls)))), (4, .inl (v4)), (5, .inl (v5)), (6, .inr (.inl (v6))), (8, .inl (v8))]) (st2 := [.inl (9), .inl (v8)]) rfl ?_
    by_cases c1 : 9 ≤ v8
    · rw [if_pos c1] at h
      refine sd_b_ct (c := .ge) (tgt := 146) rfl (decide_eq_true c1) (by decide) ?_
      refine sd_b_go 1 (pc2 := 148) (lv2 := [(0, .inr (.inr (some (316)))), (1, .inr (.inr (some (book)))), (2, .inr (.inr (some (59)))), (3, .inr (.inr (some (rls)))), (4, .inl (v4)), (5, .inl (v5)), (6, .inr (.inl (v6))), (8, .inl (v8))]) (st2 := [.inl (v5)]) rfl ?_
      cases h
      exact sd_b_rt rfl rfl rfl
    · rw [if_neg c1] at h
      refine sd_b_cf (c := .ge) rfl (decide_eq_false c1) (by decide) ?_
      refine sd_b_go 6 (pc2 := 60) (lv2 := [(0, .inr (.inr (some (316)))), (1, .inr (.inr (some (book)))), (2, .inr (.inr (some (59)))), (3, .inr (.inr (some (rls)))), (4, .inl (v4)), (5, .inl (v5)), (6, .inr (.inl (v6))), (8, .inl (v8))]) (st2 := [.inl (1), .inl (sd_and (sd_shr (v4) (v8)) (1))]) rfl ?_
      by_cases c2 : (sd_and (sd_shr (v4) (v8)) (1)) = 1
      · rw [if_pos c2] at h
        refine sd_b_cf (c := .ne) rfl (decide_eq_false (not_not_intro c2)) (by decide) ?_
        refine sd_b_go 1 (pc2 := 64) (lv2 := [(0, .inr (.inr (some (316)))), (1, .inr (.inr (some (book)))), (2, .inr (.inr (some (59)))), (3, .inr (.inr (some (rls)))), (4, .inl (v4)), (5, .inl (v5)), (6, .inr (.inl (v6))), (8, .inl (v8))]) (st2 := [.inr (.inr (some (316)))]) rfl ?_
        refine sd_b_gr (k := 0) sd_o_316 rfl rfl rfl ?_
        refine sd_b_go 3 (pc2 := 71) (lv2 := [(0, .inr (.inr (some (316)))), (1, .inr (.inr (some (book)))), (2, .inr (.inr (some (59)))), (3, .inr (.inr (some (rls)))), (4, .inl (v4)), (5, .inl (v5)), (6, .inr (.inl (v6))), (8, .inl (v8))]) (st2 := [.inr (.inl (v8)), .inl (0), .inr (.inr (some (317)))]) rfl ?_
        refine sd_b_sl (i := 0) (sd_oa sd_o_316 (by decide) (off := 1) (List.mem_of_getElem? (i := 0) rfl)) (by decide) rfl ?_
        refine sd_b_go 1 (pc2 := 73) (lv2 := [(0, .inr (.inr (some (316)))), (1, .inr (.inr (some (book)))), (2, .inr (.inr (some (59)))), (3, .inr (.inr (some (rls)))), (4, .inl (v4)), (5, .inl (v5)), (6, .inr (.inl (v6))), (8, .inl (v8))]) (st2 := [.inr (.inr (some (316)))]) rfl ?_
        refine sd_b_gr (k := 0) sd_o_316 rfl rfl rfl ?_
        refine sd_b_go 2 (pc2 := 78) (lv2 := [(0, .inr (.inr (some (316)))), (1, .inr (.inr (some (book)))), (2, .inr (.inr (some (59)))), (3, .inr (.inr (some (rls)))), (4, .inl (v4)), (5, .inl (v5)), (6, .inr (.inl (v6))), (8, .inl (v8))]) (st2 := [.inr (.inr (some (book))), .inl (1), .inr (.inr (some (317)))]) rfl ?_
        refine sd_b_gr (k := 5) h_book rfl rfl rfl ?_
        refine sd_b_go 1 (pc2 := 83) (lv2 := [(0, .inr (.inr (some (316)))), (1, .inr (.inr (some (book)))), (2, .inr (.inr (some (59)))), (3, .inr (.inr (some (rls)))), (4, .inl (v4)), (5, .inl (v5)), (6, .inr (.inl (v6))), (8, .inl (v8))]) (st2 := [.inl (v8), .inr (.inr (some (book + 1))), .inl (1), .inr (.inr (some (317)))]) rfl ?_
        obtain ⟨g3, h⟩ := sd_if h
        refine sd_b_ai (sd_oa h_book (by decide) (off := 1) (List.mem_of_getElem? (i := 0) rfl)) g3 rfl ?_
        refine sd_b_go 1 (pc2 := 85) (lv2 := [(0, .inr (.inr (some (316)))), (1, .inr (.inr (some (book)))), (2, .inr (.inr (some (59)))), (3, .inr (.inr (some (rls)))), (4, .inl (v4)), (5, .inl (v5)), (6, .inr (.inl (v6))), (8, .inl (v8))]) (st2 := [.inr (.inl ((sd_s M 317 0 v8) (book + 1) v8.toNat)), .inl (1), .inr (.inr (some (317)))]) rfl ?_
        refine sd_b_sl (i := 1) (sd_oa sd_o_316 (by decide) (off := 1) (List.mem_of_getElem? (i := 0) rfl)) (by decide) rfl ?_
        refine sd_b_go 1 (pc2 := 87) (lv2 := [(0, .inr (.inr (some (316)))), (1, .inr (.inr (some (book)))), (2, .inr (.inr (some (59)))), (3, .inr (.inr (some (rls)))), (4, .inl (v4)), (5, .inl (v5)), (6, .inr (.inl (v6))), (8, .inl (v8))]) (st2 := [.inr (.inr (some (316)))]) rfl ?_
        refine sd_b_gr (k := 0) sd_o_316 rfl rfl rfl ?_
        refine sd_b_go 2 (pc2 := 92) (lv2 := [(0, .inr (.inr (some (316)))), (1, .inr (.inr (some (book)))), (2, .inr (.inr (some (59)))), (3, .inr (.inr (some (rls)))), (4, .inl (v4)), (5, .inl (v5)), (6, .inr (.inl (v6))), (8, .inl (v8))]) (st2 := [.inr (.inr (some (book))), .inl (2), .inr (.inr (some (317)))]) rfl ?_
        refine sd_b_gr (k := 6) h_book rfl rfl rfl ?_
        refine sd_b_go 1 (pc2 := 97) (lv2 := [(0, .inr (.inr (some (316)))), (1, .inr (.inr (some (book)))), (2, .inr (.inr (some (59)))), (3, .inr (.inr (some (rls)))), (4, .inl (v4)), (5, .inl (v5)), (6, .inr (.inl (v6))), (8, .inl (v8))]) (st2 := [.inl (v8), .inr (.inr (some (book + 2))), .inl (2), .inr (.inr (some (317)))]) rfl ?_
        obtain ⟨g4, h⟩ := sd_if h
        refine sd_b_ai (sd_oa h_book (by decide) (off := 2) (List.mem_of_getElem? (i := 1) rfl)) g4 rfl ?_
        refine sd_b_go 1 (pc2 := 99) (lv2 := [(0, .inr (.inr (some (316)))), (1, .inr (.inr (some (book)))), (2, .inr (.inr (some (59)))), (3, .inr (.inr (some (rls)))), (4, .inl (v4)), (5, .inl (v5)), (6, .inr (.inl (v6))), (8, .inl (v8))]) (st2 := [.inr (.inl ((sd_s (sd_s M 317 0 v8) 317 1 ((sd_s M 317 0 v8) (book + 1) v8.toNat)) (book + 2) v8.toNat)), .inl (2), .inr (.inr (some (317)))]) rfl ?_
        refine sd_b_sl (i := 2) (sd_oa sd_o_316 (by decide) (off := 1) (List.mem_of_getElem? (i := 0) rfl)) (by decide) rfl ?_
        refine sd_b_go 1 (pc2 := 101) (lv2 := [(0, .inr (.inr (some (316)))), (1, .inr (.inr (some (book)))), (2, .inr (.inr (some (59)))), (3, .inr (.inr (some (rls)))), (4, .inl (v4)), (5, .inl (v5)), (6, .inr (.inl (v6))), (8, .inl (v8))]) (st2 := [.inr (.inr (some (316)))]) rfl ?_
        refine sd_b_gr (k := 0) sd_o_316 rfl rfl rfl ?_
        refine sd_b_go 2 (pc2 := 106) (lv2 := [(0, .inr (.inr (some (316)))), (1, .inr (.inr (some (book)))), (2, .inr (.inr (some (59)))), (3, .inr (.inr (some (rls)))), (4, .inl (v4)), (5, .inl (v5)), (6, .inr (.inl (v6))), (8, .inl (v8))]) (st2 := [.inr (.inr (some (59))), .inl (3), .inr (.inr (some (317)))]) rfl ?_
        refine sd_b_gr (k := 5) sd_o_59 rfl rfl rfl ?_
        refine sd_b_go 1 (pc2 := 111) (lv2 := [(0, .inr (.inr (some (316)))), (1, .inr (.inr (some (book)))), (2, .inr (.inr (some (59)))), (3, .inr (.inr (some (rls)))), (4, .inl (v4)), (5, .inl (v5)), (6, .inr (.inl (v6))), (8, .inl (v8))]) (st2 := [.inl (v8), .inr (.inr (some (62))), .inl (3), .inr (.inr (some (317)))]) rfl ?_
        obtain ⟨g5, h⟩ := sd_if h
        refine sd_b_ai (sd_oa sd_o_59 (by decide) (off := 3) (List.mem_of_getElem? (i := 2) rfl)) g5 rfl ?_
        refine sd_b_go 1 (pc2 := 113) (lv2 := [(0, .inr (.inr (some (316)))), (1, .inr (.inr (some (book)))), (2, .inr (.inr (some (59)))), (3, .inr (.inr (some (rls)))), (4, .inl (v4)), (5, .inl (v5)), (6, .inr (.inl (v6))), (8, .inl (v8))]) (st2 := [.inr (.inl ((sd_s (sd_s (sd_s M 317 0 v8) 317 1 ((sd_s M 317 0 v8) (book + 1) v8.toNat)) 317 2 ((sd_s (sd_s M 317 0 v8) 317 1 ((sd_s M 317 0 v8) (book + 1) v8.toNat)) (book + 2) v8.toNat)) 62 v8.toNat)), .inl (3), .inr (.inr (some (317)))]) rfl ?_
        refine sd_b_sl (i := 3) (sd_oa sd_o_316 (by decide) (off := 1) (List.mem_of_getElem? (i := 0) rfl)) (by decide) rfl ?_
        refine sd_b_go 2 (pc2 := 116) (lv2 := [(0, .inr (.inr (some (316)))), (1, .inr (.inr (some (book)))), (2, .inr (.inr (some (59)))), (3, .inr (.inr (some (rls)))), (4, .inl (v4)), (5, .inl (v5)), (6, .inr (.inl (v6))), (8, .inl (v8))]) (st2 := [.inr (.inr (some (316))), .inr (.inr (some (rls)))]) rfl ?_
        refine sd_b_gr (k := 0) sd_o_316 rfl rfl rfl ?_
        obtain ⟨r6, e6, h⟩ := sd_bnd h
        refine sd_b_call [.inr (.inr (some (rls))), .inr (.inr (some (317)))] [] rfl rfl sd_i_X4_worth rfl rfl (Nat.le_of_ble_eq_true rfl) (sd_rc_v h_rls) (m_X4_worth (by omega) h_rls e6) ?_
        refine sd_b_go 4 (pc2 := 129) (lv2 := [(9, .inr (.inl (r6.1))), (0, .inr (.inr (some (316)))), (1, .inr (.inr (some (book)))), (2, .inr (.inr (some (59)))), (3, .inr (.inr (some (rls)))), (4, .inl (v4)), (5, .inl (v5)), (6, .inr (.inl (v6))), (8, .inl (v8))]) (st2 := [.inl (sd_cmpl r6.1 v6)]) rfl ?_
        by_cases c7 : (sd_cmpl r6.1 v6) ≤ 0
        · rw [if_pos c7] at h
          refine sd_b_zt (c := .le) (tgt := 140) rfl (decide_eq_true c7) (by decide) ?_
          refine sd_b_wk [(0, .inr (.inr (some (316)))), (1, .inr (.inr (some (book)))), (2, .inr (.inr (some (59)))), (3, .inr (.inr (some (rls)))), (4, .inl (v4)), (5, .inl (v5)), (6, .inr (.inl (v6))), (8, .inl (v8))] (List.forall_mem_cons.mpr ⟨rfl, (List.forall_mem_cons.mpr ⟨rfl, (List.forall_mem_cons.mpr ⟨rfl, (List.forall_mem_cons.mpr ⟨rfl, (List.forall_mem_cons.mpr ⟨rfl, (List.forall_mem_cons.mpr ⟨rfl, (List.forall_mem_cons.mpr ⟨rfl, (List.forall_mem_cons.mpr ⟨rfl, (fun _ h0 => absurd h0 List.not_mem_nil)⟩)⟩)⟩)⟩)⟩)⟩)⟩)⟩) ?_
          exact t_X1_choose_140 hd book rls h_book h_rls (f_X1_choose_45 book rls n) ih v4 v5 v6 v8 r6.2 _ h
        · rw [if_neg c7] at h
          refine sd_b_zf (c := .le) rfl (decide_eq_false c7) (by decide) ?_
          refine sd_b_go 4 (pc2 := 140) (lv2 := [(5, .inl (v8)), (6, .inr (.inl (r6.1))), (9, .inr (.inl (r6.1))), (0, .inr (.inr (some (316)))), (1, .inr (.inr (some (book)))), (2, .inr (.inr (some (59)))), (3, .inr (.inr (some (rls)))), (4, .inl (v4)), (8, .inl (v8))]) (st2 := []) rfl ?_
          refine sd_b_wk [(0, .inr (.inr (some (316)))), (1, .inr (.inr (some (book)))), (2, .inr (.inr (some (59)))), (3, .inr (.inr (some (rls)))), (4, .inl (v4)), (5, .inl (v8)), (6, .inr (.inl (r6.1))), (8, .inl (v8))] (List.forall_mem_cons.mpr ⟨rfl, (List.forall_mem_cons.mpr ⟨rfl, (List.forall_mem_cons.mpr ⟨rfl, (List.forall_mem_cons.mpr ⟨rfl, (List.forall_mem_cons.mpr ⟨rfl, (List.forall_mem_cons.mpr ⟨rfl, (List.forall_mem_cons.mpr ⟨rfl, (List.forall_mem_cons.mpr ⟨rfl, (fun _ h0 => absurd h0 List.not_mem_nil)⟩)⟩)⟩)⟩)⟩)⟩)⟩)⟩) ?_
          exact t_X1_choose_140 hd book rls h_book h_rls (f_X1_choose_45 book rls n) ih v4 v8 r6.1 v8 r6.2 _ h
      · rw [if_neg c2] at h
        refine sd_b_ct (c := .ne) (tgt := 140) rfl (decide_eq_true c2) (by decide) ?_
        refine sd_b_wk [(0, .inr (.inr (some (316)))), (1, .inr (.inr (some (book)))), (2, .inr (.inr (some (59)))), (3, .inr (.inr (some (rls)))), (4, .inl (v4)), (5, .inl (v5)), (6, .inr (.inl (v6))), (8, .inl (v8))] (List.forall_mem_cons.mpr ⟨rfl, (List.forall_mem_cons.mpr ⟨rfl, (List.forall_mem_cons.mpr ⟨rfl, (List.forall_mem_cons.mpr ⟨rfl, (List.forall_mem_cons.mpr ⟨rfl, (List.forall_mem_cons.mpr ⟨rfl, (List.forall_mem_cons.mpr ⟨rfl, (List.forall_mem_cons.mpr ⟨rfl, (fun _ h0 => absurd h0 List.not_mem_nil)⟩)⟩)⟩)⟩)⟩)⟩)⟩)⟩) ?_
        exact t_X1_choose_140 hd book rls h_book h_rls (f_X1_choose_45 book rls n) ih v4 v5 v6 v8 M _ h
def f_X1_choose (book : Nat) (rl : Option Nat) (M : sd_M) : Option (Int × sd_M) := (f_X0_bitsWhere book 0 (M 59 2) M).bind fun r1 => if r1.1 = 0 then (some ((-1), r1.2)) else (match rl with | none => ((f_X9_nthBit r1.1 0 r1.2).bind fun r4 => some (r4.1, r4.2)) | some rls => ((f_X1_layWords book r1.1 r1.2).bind fun r3 => f_X1_choose_45 book rls 4000 r1.1 ((-1)) 0 0 r3.2))
set_option maxRecDepth 4000 in
theorem t_X1_choose {X : Nat → List sd_V → List sd_E → sd_A → Prop} {d : Nat} (hd : 3 ≤ d) (book : Nat) (rl : Option Nat) (h_book : sd_o book 0) (h_rl : ∀ a, rl = some a → sd_o a 4) (M : sd_M) (Rr : Int × sd_M) (h : f_X1_choose book rl M = some Rr) : sd_B X d sd_q_X1_choose 0 [(0, .inr (.inr (some (316)))), (1, .inr (.inr (some (book)))), (2, .inr (.inr (some (59)))), (3, .inr (.inr rl))] [] M (some (.inl Rr.1), sd_rp Rr.2, 0, 0) := by
  unfold f_X1_choose at h
  refine sd_b_go 3 (pc2 := 3) (lv2 := [(0, .inr (.inr (some (316)))), (1, .inr (.inr (some (book)))), (2, .inr (.inr (some (59)))), (3, .inr (.inr rl))]) (st2 := [.inr (.inr (some (59))), .inl (0), .inr (.inr (some (book)))]) rfl ?_
  refine sd_b_gi (k := 2) sd_o_59 rfl rfl rfl ?_
  obtain ⟨r1, e1, h⟩ := sd_bnd h
  refine sd_b_call [.inr (.inr (some (book))), .inl (0), .inl (M 59 2)] [] rfl rfl sd_i_X0_bitsWhere rfl rfl (Nat.le_of_ble_eq_true rfl) (sd_rc_v h_book) (m_X0_bitsWhere (by omega) h_book e1) ?_
  refine sd_b_go 2 (pc2 := 13) (lv2 := [(4, .inl (r1.1)), (0, .inr (.inr (some (316)))), (1, .inr (.inr (some (book)))), (2, .inr (.inr (some (59)))), (3, .inr (.inr rl))]) (st2 := [.inl (r1.1)]) rfl ?_
  by_cases c2 : r1.1 = 0
  · rw [if_pos c2] at h
    refine sd_b_zf (c := .ne) rfl (decide_eq_false (not_not_intro c2)) (by decide) ?_
    refine sd_b_go 1 (pc2 := 17) (lv2 := [(4, .inl (r1.1)), (0, .inr (.inr (some (316)))), (1, .inr (.inr (some (book)))), (2, .inr (.inr (some (59)))), (3, .inr (.inr rl))]) (st2 := [.inl ((-1))]) rfl ?_
    cases h
    exact sd_b_rt rfl rfl rfl
  · rw [if_neg c2] at h
    refine sd_b_zt (c := .ne) (tgt := 18) rfl (decide_eq_true c2) (by decide) ?_
    refine sd_b_go 1 (pc2 := 19) (lv2 := [(4, .inl (r1.1)), (0, .inr (.inr (some (316)))), (1, .inr (.inr (some (book)))), (2, .inr (.inr (some (59)))), (3, .inr (.inr rl))]) (st2 := [.inr (.inr rl)]) rfl ?_
    cases rl with
    | none =>
      dsimp only at h
      refine sd_b_go 1 (pc2 := 22) (lv2 := [(4, .inl (r1.1)), (0, .inr (.inr (some (316)))), (1, .inr (.inr (some (book)))), (2, .inr (.inr (some (59)))), (3, .inr (.inr none))]) (st2 := []) rfl ?_
      refine sd_b_go 2 (pc2 := 25) (lv2 := [(4, .inl (r1.1)), (0, .inr (.inr (some (316)))), (1, .inr (.inr (some (book)))), (2, .inr (.inr (some (59)))), (3, .inr (.inr none))]) (st2 := [.inl (0), .inl (r1.1)]) rfl ?_
      obtain ⟨r4, e4, h⟩ := sd_bnd h
      refine sd_b_call [.inl (r1.1), .inl (0)] [] rfl rfl sd_i_X9_nthBit rfl rfl (Nat.le_of_ble_eq_true rfl) rfl (m_X9_nthBit (by omega) e4) ?_
      cases h
      exact sd_b_rt rfl rfl rfl
    | some rls =>
      dsimp only at h
      refine sd_b_go 1 (pc2 := 29) (lv2 := [(4, .inl (r1.1)), (0, .inr (.inr (some (316)))), (1, .inr (.inr (some (book)))), (2, .inr (.inr (some (59)))), (3, .inr (.inr (some (rls))))]) (st2 := []) rfl ?_
      refine sd_b_go 3 (pc2 := 33) (lv2 := [(4, .inl (r1.1)), (0, .inr (.inr (some (316)))), (1, .inr (.inr (some (book)))), (2, .inr (.inr (some (59)))), (3, .inr (.inr (some (rls))))]) (st2 := [.inl (r1.1), .inr (.inr (some (book))), .inr (.inr (some (316)))]) rfl ?_
      obtain ⟨r3, e3, h⟩ := sd_bnd h
      refine sd_b_call [.inr (.inr (some (316))), .inr (.inr (some (book))), .inl (r1.1)] [] rfl rfl sd_i_X1_layWords rfl rfl (Nat.le_of_ble_eq_true rfl) (sd_rc_v sd_o_316) (m_X1_layWords (by omega) h_book e3) ?_
      refine sd_b_go 6 (pc2 := 45) (lv2 := [(8, .inl (0)), (6, .inr (.inl (0))), (5, .inl ((-1))), (4, .inl (r1.1)), (0, .inr (.inr (some (316)))), (1, .inr (.inr (some (book)))), (2, .inr (.inr (some (59)))), (3, .inr (.inr (some (rls))))]) (st2 := []) rfl ?_
      refine sd_b_wk [(0, .inr (.inr (some (316)))), (1, .inr (.inr (some (book)))), (2, .inr (.inr (some (59)))), (3, .inr (.inr (some (rls)))), (4, .inl (r1.1)), (5, .inl ((-1))), (6, .inr (.inl (0))), (8, .inl (0))] (List.forall_mem_cons.mpr ⟨rfl, (List.forall_mem_cons.mpr ⟨rfl, (List.forall_mem_cons.mpr ⟨rfl, (List.forall_mem_cons.mpr ⟨rfl, (List.forall_mem_cons.mpr ⟨rfl, (List.forall_mem_cons.mpr ⟨rfl, (List.forall_mem_cons.mpr ⟨rfl, (List.forall_mem_cons.mpr ⟨rfl, (fun _ h0 => absurd h0 List.not_mem_nil)⟩)⟩)⟩)⟩)⟩)⟩)⟩)⟩) ?_
      exact t_X1_choose_45 hd book rls h_book (h_rl rls rfl) 4000 r1.1 ((-1)) 0 0 r3.2 _ h
theorem m_X1_choose {X : Nat → List sd_V → List sd_E → sd_A → Prop} {d : Nat} (hd : 4 ≤ d) {book : Nat} {rl : Option Nat} (h_book : sd_o book 0) (h_rl : ∀ a, rl = some a → sd_o a 4) {M : sd_M} {Rr : Int × sd_M} (h : f_X1_choose book rl M = some Rr) : sd_Cal X d 22 [.inr (.inr (some (316))), .inr (.inr (some (book))), .inr (.inr (some (59))), .inr (.inr rl)] (sd_rp M) (some (.inl Rr.1), sd_rp Rr.2, 0, 0) := by
  obtain ⟨d, rfl⟩ : ∃ d2, d = d2 + 1 := ⟨d - 1, by omega⟩
  exact sd_cal_of sd_i_X1_choose (Nat.le_of_ble_eq_true rfl) (t_X1_choose (by omega) book rl h_book h_rl M Rr h)
-- X5_readsComparison
def sd_q_X5_readsComparison : sd_MI := (yX5_readsComparison, cX5_readsComparison, 4, (some .boolean), 5, 2, sd_t_X5_readsComparison)
set_option maxRecDepth 4000 in
theorem sd_i_X5_readsComparison : sd_mL[44]? = some sd_q_X5_readsComparison := rfl
def f_X5_readsComparison_31 (into : Nat) (M : sd_M) : Option (Int × sd_M) := (f_X7_fails 0 M).bind fun r1 => if r1.1 = 0 ∨ r1.1 = 1 then some (r1.1, r1.2) else none
set_option maxRecDepth 4000 in
theorem t_X5_readsComparison_31 {X : Nat → List sd_V → List sd_E → sd_A → Prop} {d : Nat} (hd : 3 ≤ d) (into : Nat) (h_into : sd_o into 4) (M : sd_M) (Rr : Int × sd_M) (h : f_X5_readsComparison_31 into M = some Rr) : sd_B X d sd_q_X5_readsComparison 31 [(1, .inr (.inr (some (1))))] [] M (some (.inl Rr.1), sd_rp Rr.2, 0, 0) := by
  unfold f_X5_readsComparison_31 at h
  refine sd_b_go 2 (pc2 := 33) (lv2 := [(1, .inr (.inr (some (1))))]) (st2 := [.inl (0), .inr (.inr (some (1)))]) rfl ?_
  obtain ⟨r1, e1, h⟩ := sd_bnd h
  refine sd_b_call [.inr (.inr (some (1))), .inl (0)] [] rfl rfl sd_i_X7_fails rfl rfl (Nat.le_of_ble_eq_true rfl) (sd_rc_v sd_o_1) (m_X7_fails (by omega) e1) ?_
  obtain ⟨g2, h⟩ := sd_if h
  cases h
  exact sd_b_rz g2 rfl rfl
def f_X5_readsComparison (into : Nat) (M : sd_M) : Option (Int × sd_M) := (f_X5_readsSum into M).bind fun r1 => if r1.1 = 0 then (some (0, r1.2)) else ((f_X7_kind r1.2).bind fun r3 => (f_X5_stepOf r3.1 r3.2).bind fun r4 => if r4.1 < 7 then (f_X5_readsComparison_31 into r4.2) else (if r4.1 ≤ 11 then (if (r4.2 14 0) < 60 then ((f_X7_step (sd_s r4.2 14 0 (sd_w ((r4.2 14 0) + 1)))).bind fun r8 => (f_X5_readsSum into r8.2).bind fun r9 => if r9.1 = 0 then (some (0, r9.2)) else ((f_X4_add into r4.1 0 r9.2).bind fun r11 => some (1, r11.2))) else ((f_X7_fails 3 r4.2).bind fun r12 => if r12.1 = 0 ∨ r12.1 = 1 then some (r12.1, r12.2) else none)) else (f_X5_readsComparison_31 into r4.2)))
set_option maxRecDepth 4000 in
theorem t_X5_readsComparison {X : Nat → List sd_V → List sd_E → sd_A → Prop} {d : Nat} (hd : 3 ≤ d) (into : Nat) (h_into : sd_o into 4) (M : sd_M) (Rr : Int × sd_M) (h : f_X5_readsComparison into M = some Rr) : sd_B X d sd_q_X5_readsComparison 0 [(0, .inr (.inr (some (14)))), (1, .inr (.inr (some (1)))), (2, .inr (.inr (some (into))))] [] M (some (.inl Rr.1), sd_rp Rr.2, 0, 0) := by
  unfold f_X5_readsComparison at h
  refine sd_b_go 3 (pc2 := 3) (lv2 := [(0, .inr (.inr (some (14)))), (1, .inr (.inr (some (1)))), (2, .inr (.inr (some (into))))]) (st2 := [.inr (.inr (some (into))), .inr (.inr (some (1))), .inr (.inr (some (14)))]) rfl ?_
  obtain ⟨r1, e1, h⟩ := sd_bnd h
  refine sd_b_call [.inr (.inr (some (14))), .inr (.inr (some (1))), .inr (.inr (some (into)))] [] rfl rfl sd_i_X5_readsSum rfl rfl (Nat.le_of_ble_eq_true rfl) (sd_rc_v sd_o_14) (m_X5_readsSum (by omega) h_into e1) ?_
  by_cases c2 : r1.1 = 0
  · rw [if_pos c2] at h
    refine sd_b_zf (c := .ne) rfl (decide_eq_false (not_not_intro c2)) (by decide) ?_
    refine sd_b_go 1 (pc2 := 10) (lv2 := [(0, .inr (.inr (some (14)))), (1, .inr (.inr (some (1)))), (2, .inr (.inr (some (into))))]) (st2 := [.inl (0)]) rfl ?_
    cases h
    exact sd_b_rt rfl rfl rfl
  · rw [if_neg c2] at h
    refine sd_b_zt (c := .ne) (tgt := 11) rfl (decide_eq_true c2) (by decide) ?_
    refine sd_b_go 1 (pc2 := 12) (lv2 := [(0, .inr (.inr (some (14)))), (1, .inr (.inr (some (1)))), (2, .inr (.inr (some (into))))]) (st2 := [.inr (.inr (some (1)))]) rfl ?_
    obtain ⟨r3, e3, h⟩ := sd_bnd h
    refine sd_b_call [.inr (.inr (some (1)))] [] rfl rfl sd_i_X7_kind rfl rfl (Nat.le_of_ble_eq_true rfl) (sd_rc_v sd_o_1) (m_X7_kind (by omega) e3) ?_
    obtain ⟨r4, e4, h⟩ := sd_bnd h
    refine sd_b_call [.inl (r3.1)] [] rfl rfl sd_i_X5_stepOf rfl rfl (Nat.le_of_ble_eq_true rfl) rfl (m_X5_stepOf (by omega) e4) ?_
    refine sd_b_go 3 (pc2 := 22) (lv2 := [(3, .inl (r4.1)), (0, .inr (.inr (some (14)))), (1, .inr (.inr (some (1)))), (2, .inr (.inr (some (into))))]) (st2 := [.inl (7), .inl (r4.1)]) rfl ?_
    by_cases c5 : r4.1 < 7
    · rw [if_pos c5] at h
      refine sd_b_ct (c := .lt) (tgt := 31) rfl (decide_eq_true c5) (by decide) ?_
      refine sd_b_wk [(1, .inr (.inr (some (1))))] (List.forall_mem_cons.mpr ⟨rfl, (fun _ h0 => absurd h0 List.not_mem_nil)⟩) ?_
      exact t_X5_readsComparison_31 hd into h_into r4.2 _ h
    · rw [if_neg c5] at h
      refine sd_b_cf (c := .lt) rfl (decide_eq_false c5) (by decide) ?_
      refine sd_b_go 2 (pc2 := 28) (lv2 := [(3, .inl (r4.1)), (0, .inr (.inr (some (14)))), (1, .inr (.inr (some (1)))), (2, .inr (.inr (some (into))))]) (st2 := [.inl (11), .inl (r4.1)]) rfl ?_
      by_cases c6 : r4.1 ≤ 11
      · rw [if_pos c6] at h
        refine sd_b_ct (c := .le) (tgt := 37) rfl (decide_eq_true c6) (by decide) ?_
        refine sd_b_go 1 (pc2 := 38) (lv2 := [(3, .inl (r4.1)), (0, .inr (.inr (some (14)))), (1, .inr (.inr (some (1)))), (2, .inr (.inr (some (into))))]) (st2 := [.inr (.inr (some (14)))]) rfl ?_
        refine sd_b_gi (k := 0) sd_o_14 rfl rfl rfl ?_
        refine sd_b_go 1 (pc2 := 43) (lv2 := [(3, .inl (r4.1)), (0, .inr (.inr (some (14)))), (1, .inr (.inr (some (1)))), (2, .inr (.inr (some (into))))]) (st2 := [.inl (60), .inl (r4.2 14 0)]) rfl ?_
        by_cases c7 : (r4.2 14 0) < 60
        · rw [if_pos c7] at h
          refine sd_b_ct (c := .lt) (tgt := 52) rfl (decide_eq_true c7) (by decide) ?_
          refine sd_b_go 2 (pc2 := 54) (lv2 := [(3, .inl (r4.1)), (0, .inr (.inr (some (14)))), (1, .inr (.inr (some (1)))), (2, .inr (.inr (some (into))))]) (st2 := [.inr (.inr (some (14))), .inr (.inr (some (14)))]) rfl ?_
          refine sd_b_gi (k := 0) sd_o_14 rfl rfl rfl ?_
          refine sd_b_go 2 (pc2 := 59) (lv2 := [(3, .inl (r4.1)), (0, .inr (.inr (some (14)))), (1, .inr (.inr (some (1)))), (2, .inr (.inr (some (into))))]) (st2 := [.inl (sd_w ((r4.2 14 0) + 1)), .inr (.inr (some (14)))]) rfl ?_
          refine sd_b_pi (k := 0) sd_o_14 rfl rfl rfl rfl rfl ?_
          refine sd_b_go 1 (pc2 := 63) (lv2 := [(3, .inl (r4.1)), (0, .inr (.inr (some (14)))), (1, .inr (.inr (some (1)))), (2, .inr (.inr (some (into))))]) (st2 := [.inr (.inr (some (1)))]) rfl ?_
          obtain ⟨r8, e8, h⟩ := sd_bnd h
          refine sd_b_call [.inr (.inr (some (1)))] [] rfl rfl sd_i_X7_step rfl rfl (Nat.le_of_ble_eq_true rfl) (sd_rc_v sd_o_1) (m_X7_step (by omega) e8) ?_
          refine sd_b_go 3 (pc2 := 69) (lv2 := [(3, .inl (r4.1)), (0, .inr (.inr (some (14)))), (1, .inr (.inr (some (1)))), (2, .inr (.inr (some (into))))]) (st2 := [.inr (.inr (some (into))), .inr (.inr (some (1))), .inr (.inr (some (14)))]) rfl ?_
          obtain ⟨r9, e9, h⟩ := sd_bnd h
          refine sd_b_call [.inr (.inr (some (14))), .inr (.inr (some (1))), .inr (.inr (some (into)))] [] rfl rfl sd_i_X5_readsSum rfl rfl (Nat.le_of_ble_eq_true rfl) (sd_rc_v sd_o_14) (m_X5_readsSum (by omega) h_into e9) ?_
          by_cases c10 : r9.1 = 0
          · rw [if_pos c10] at h
            refine sd_b_zf (c := .ne) rfl (decide_eq_false (not_not_intro c10)) (by decide) ?_
            refine sd_b_go 1 (pc2 := 76) (lv2 := [(3, .inl (r4.1)), (0, .inr (.inr (some (14)))), (1, .inr (.inr (some (1)))), (2, .inr (.inr (some (into))))]) (st2 := [.inl (0)]) rfl ?_
            cases h
            exact sd_b_rt rfl rfl rfl
          · rw [if_neg c10] at h
            refine sd_b_zt (c := .ne) (tgt := 77) rfl (decide_eq_true c10) (by decide) ?_
            refine sd_b_go 3 (pc2 := 80) (lv2 := [(3, .inl (r4.1)), (0, .inr (.inr (some (14)))), (1, .inr (.inr (some (1)))), (2, .inr (.inr (some (into))))]) (st2 := [.inl (0), .inl (r4.1), .inr (.inr (some (into)))]) rfl ?_
            obtain ⟨r11, e11, h⟩ := sd_bnd h
            refine sd_b_call [.inr (.inr (some (into))), .inl (r4.1), .inl (0)] [] rfl rfl sd_i_X4_add rfl rfl (Nat.le_of_ble_eq_true rfl) (sd_rc_v h_into) (m_X4_add (by omega) h_into e11) ?_
            refine sd_b_go 1 (pc2 := 84) (lv2 := [(3, .inl (r4.1)), (0, .inr (.inr (some (14)))), (1, .inr (.inr (some (1)))), (2, .inr (.inr (some (into))))]) (st2 := [.inl (1)]) rfl ?_
            cases h
            exact sd_b_rt rfl rfl rfl
        · rw [if_neg c7] at h
          refine sd_b_cf (c := .lt) rfl (decide_eq_false c7) (by decide) ?_
          refine sd_b_go 2 (pc2 := 48) (lv2 := [(3, .inl (r4.1)), (0, .inr (.inr (some (14)))), (1, .inr (.inr (some (1)))), (2, .inr (.inr (some (into))))]) (st2 := [.inl (3), .inr (.inr (some (1)))]) rfl ?_
          obtain ⟨r12, e12, h⟩ := sd_bnd h
          refine sd_b_call [.inr (.inr (some (1))), .inl (3)] [] rfl rfl sd_i_X7_fails rfl rfl (Nat.le_of_ble_eq_true rfl) (sd_rc_v sd_o_1) (m_X7_fails (by omega) e12) ?_
          obtain ⟨g13, h⟩ := sd_if h
          cases h
          exact sd_b_rz g13 rfl rfl
      · rw [if_neg c6] at h
        refine sd_b_cf (c := .le) rfl (decide_eq_false c6) (by decide) ?_
        refine sd_b_wk [(1, .inr (.inr (some (1))))] (List.forall_mem_cons.mpr ⟨rfl, (fun _ h0 => absurd h0 List.not_mem_nil)⟩) ?_
        exact t_X5_readsComparison_31 hd into h_into r4.2 _ h
theorem m_X5_readsComparison {X : Nat → List sd_V → List sd_E → sd_A → Prop} {d : Nat} (hd : 4 ≤ d) {into : Nat} (h_into : sd_o into 4) {M : sd_M} {Rr : Int × sd_M} (h : f_X5_readsComparison into M = some Rr) : sd_Cal X d 44 [.inr (.inr (some (14))), .inr (.inr (some (1))), .inr (.inr (some (into)))] (sd_rp M) (some (.inl Rr.1), sd_rp Rr.2, 0, 0) := by
  obtain ⟨d, rfl⟩ : ∃ d2, d = d2 + 1 := ⟨d - 1, by omega⟩
  exact sd_cal_of sd_i_X5_readsComparison (Nat.le_of_ble_eq_true rfl) (t_X5_readsComparison (by omega) into h_into M Rr h)
-- X5_readsTest
def sd_q_X5_readsTest : sd_MI := (yX5_readsTest, cX5_readsTest, 7, (some .boolean), 5, 3, sd_t_X5_readsTest)
set_option maxRecDepth 4000 in
theorem sd_i_X5_readsTest : sd_mL[42]? = some sd_q_X5_readsTest := rfl
def sd_q_X5_readsFact : sd_MI := (yX5_readsFact, cX5_readsFact, 5, (some .boolean), 5, 3, sd_t_X5_readsFact)
set_option maxRecDepth 4000 in
theorem sd_i_X5_readsFact : sd_mL[43]? = some sd_q_X5_readsFact := rfl
def fb_X5_readsTest_99 (k9 : Int → Int → Int → Int → sd_M → Option (Int × sd_M)) (into : Nat) (gT : Nat → Int → sd_M → Option (Int × sd_M)) (gF : Nat → Int → sd_M → Option (Int × sd_M)) (v3 : Int) (v4 : Int) (v5 : Int) (v6 : Int) (M : sd_M) : Option (Int × sd_M) := (f_X7_step M).bind fun r1 => k9 v3 v4 v5 (sd_w (v6 + 1)) r1.2
set_option maxRecDepth 4000 in
theorem t_X5_readsTest_99 {d : Nat} (hd : 1 ≤ d) (into : Nat) (gT : Nat → Int → sd_M → Option (Int × sd_M)) (gF : Nat → Int → sd_M → Option (Int × sd_M)) (h_into : sd_o into 4) (h_gT : ∀ (into : Nat) (x : Int) (M : sd_M) (Rr : Int × sd_M), sd_o into 4 → gT into x M = some Rr → sd_Cal sd_X d 42 [.inr (.inr (some (14))), .inr (.inr (some (1))), .inr (.inr (some (into))), .inl (x)] (sd_rp M) (some (.inl Rr.1), sd_rp Rr.2, 0, 0)) (h_gF : ∀ (into : Nat) (x : Int) (M : sd_M) (Rr : Int × sd_M), sd_o into 4 → gF into x M = some Rr → sd_Cal sd_X d 43 [.inr (.inr (some (14))), .inr (.inr (some (1))), .inr (.inr (some (into))), .inl (x)] (sd_rp M) (some (.inl Rr.1), sd_rp Rr.2, 0, 0)) (k9 : Int → Int → Int → Int → sd_M → Option (Int × sd_M)) (hk9 : ∀ (v3 : Int) (v4 : Int) (v5 : Int) (v6 : Int) (M : sd_M) (Rr : Int × sd_M), k9 v3 v4 v5 v6 M = some Rr → sd_B sd_X d sd_q_X5_readsTest 9 [(0, .inr (.inr (some (14)))), (1, .inr (.inr (some (1)))), (2, .inr (.inr (some (into)))), (3, .inl (v3)), (4, .inl (v4)), (5, .inl (v5)), (6, .inl (v6))] [] M (some (.inl Rr.1), sd_rp Rr.2, 0, 0)) (v3 : Int) (v4 : Int) (v5 : Int) (v6 : Int) (M : sd_M) (Rr : Int × sd_M) (h : fb_X5_readsTest_99 k9 into gT gF v3 v4 v5 v6 M = some Rr) : sd_B sd_X d sd_q_X5_readsTest 99 [(0, .inr (.inr (some (14)))), (1, .inr (.inr (some (1)))), (2, .inr (.inr (some (into)))), (3, .inl (v3)), (4, .inl (v4)), (5, .inl (v5)), (6, .inl (v6))] [] M (some (.inl Rr.1), sd_rp Rr.2, 0, 0) := by
  unfold fb_X5_readsTest_99 at h
  refine sd_b_go 1 (pc2 := 100) (lv2 := [(0, .inr (.inr (some (14)))), (1, .inr (.inr (some (1)))), (2, .inr (.inr (some (into)))), (3, .inl (v3)), (4, .inl (v4)), (5, .inl (v5)), (6, .inl (v6))]) (st2 := [.inr (.inr (some (1)))]) rfl ?_
  obtain ⟨r1, e1, h⟩ := sd_bnd h
  refine sd_b_call [.inr (.inr (some (1)))] [] rfl rfl sd_i_X7_step rfl rfl (Nat.le_of_ble_eq_true rfl) (sd_rc_v sd_o_1) (m_X7_step (by omega) e1) ?_
  refine sd_b_go 2 (pc2 := 9) (lv2 := [(6, .inl (sd_w (v6 + 1))), (0, .inr (.inr (some (14)))), (1, .inr (.inr (some (1)))), (2, .inr (.inr (some (into)))), (3, .inl (v3)), (4, .inl (v4)), (5, .inl (v5))]) (st2 := []) rfl ?_
  refine sd_b_wk [(0, .inr (.inr (some (14)))), (1, .inr (.inr (some (1)))), (2, .inr (.inr (some (into)))), (3, .inl (v3)), (4, .inl (v4)), (5, .inl (v5)), (6, .inl (sd_w (v6 + 1)))] (List.forall_mem_cons.mpr ⟨rfl, (List.forall_mem_cons.mpr ⟨rfl, (List.forall_mem_cons.mpr ⟨rfl, (List.forall_mem_cons.mpr ⟨rfl, (List.forall_mem_cons.mpr ⟨rfl, (List.forall_mem_cons.mpr ⟨rfl, (List.forall_mem_cons.mpr ⟨rfl, (fun _ h0 => absurd h0 List.not_mem_nil)⟩)⟩)⟩)⟩)⟩)⟩)⟩) ?_
  exact hk9 v3 v4 v5 (sd_w (v6 + 1)) r1.2 _ h
def fb_X5_readsTest_90 (k9 : Int → Int → Int → Int → sd_M → Option (Int × sd_M)) (into : Nat) (gT : Nat → Int → sd_M → Option (Int × sd_M)) (gF : Nat → Int → sd_M → Option (Int × sd_M)) (v3 : Int) (v4 : Int) (v6 : Int) (s0 : Int) (M : sd_M) : Option (Int × sd_M) := if s0 = 0 then (some (1, M)) else (fb_X5_readsTest_99 k9 into gT gF v3 v4 s0 v6 M)
set_option maxRecDepth 4000 in
theorem t_X5_readsTest_90 {d : Nat} (hd : 1 ≤ d) (into : Nat) (gT : Nat → Int → sd_M → Option (Int × sd_M)) (gF : Nat → Int → sd_M → Option (Int × sd_M)) (h_into : sd_o into 4) (h_gT : ∀ (into : Nat) (x : Int) (M : sd_M) (Rr : Int × sd_M), sd_o into 4 → gT into x M = some Rr → sd_Cal sd_X d 42 [.inr (.inr (some (14))), .inr (.inr (some (1))), .inr (.inr (some (into))), .inl (x)] (sd_rp M) (some (.inl Rr.1), sd_rp Rr.2, 0, 0)) (h_gF : ∀ (into : Nat) (x : Int) (M : sd_M) (Rr : Int × sd_M), sd_o into 4 → gF into x M = some Rr → sd_Cal sd_X d 43 [.inr (.inr (some (14))), .inr (.inr (some (1))), .inr (.inr (some (into))), .inl (x)] (sd_rp M) (some (.inl Rr.1), sd_rp Rr.2, 0, 0)) (k9 : Int → Int → Int → Int → sd_M → Option (Int × sd_M)) (hk9 : ∀ (v3 : Int) (v4 : Int) (v5 : Int) (v6 : Int) (M : sd_M) (Rr : Int × sd_M), k9 v3 v4 v5 v6 M = some Rr → sd_B sd_X d sd_q_X5_readsTest 9 [(0, .inr (.inr (some (14)))), (1, .inr (.inr (some (1)))), (2, .inr (.inr (some (into)))), (3, .inl (v3)), (4, .inl (v4)), (5, .inl (v5)), (6, .inl (v6))] [] M (some (.inl Rr.1), sd_rp Rr.2, 0, 0)) (v3 : Int) (v4 : Int) (v6 : Int) (s0 : Int) (M : sd_M) (Rr : Int × sd_M) (h : fb_X5_readsTest_90 k9 into gT gF v3 v4 v6 s0 M = some Rr) : sd_B sd_X d sd_q_X5_readsTest 90 [(0, .inr (.inr (some (14)))), (1, .inr (.inr (some (1)))), (2, .inr (.inr (some (into)))), (3, .inl (v3)), (4, .inl (v4)), (6, .inl (v6))] [.inl (s0)] M (some (.inl Rr.1), sd_rp Rr.2, 0, 0) := by
  unfold fb_X5_readsTest_90 at h
  refine sd_b_go 2 (pc2 := 94) (lv2 := [(5, .inl (s0)), (0, .inr (.inr (some (14)))), (1, .inr (.inr (some (1)))), (2, .inr (.inr (some (into)))), (3, .inl (v3)), (4, .inl (v4)), (6, .inl (v6))]) (st2 := [.inl (s0)]) rfl ?_
  by_cases c1 : s0 = 0
  · rw [if_pos c1] at h
    refine sd_b_zf (c := .ne) rfl (decide_eq_false (not_not_intro c1)) (by decide) ?_
    refine sd_b_go 1 (pc2 := 98) (lv2 := [(5, .inl (s0)), (0, .inr (.inr (some (14)))), (1, .inr (.inr (some (1)))), (2, .inr (.inr (some (into)))), (3, .inl (v3)), (4, .inl (v4)), (6, .inl (v6))]) (st2 := [.inl (1)]) rfl ?_
    cases h
    exact sd_b_rt rfl rfl rfl
  · rw [if_neg c1] at h
    refine sd_b_zt (c := .ne) (tgt := 99) rfl (decide_eq_true c1) (by decide) ?_
    refine sd_b_wk [(0, .inr (.inr (some (14)))), (1, .inr (.inr (some (1)))), (2, .inr (.inr (some (into)))), (3, .inl (v3)), (4, .inl (v4)), (5, .inl (s0)), (6, .inl (v6))] (List.forall_mem_cons.mpr ⟨rfl, (List.forall_mem_cons.mpr ⟨rfl, (List.forall_mem_cons.mpr ⟨rfl, (List.forall_mem_cons.mpr ⟨rfl, (List.forall_mem_cons.mpr ⟨rfl, (List.forall_mem_cons.mpr ⟨rfl, (List.forall_mem_cons.mpr ⟨rfl, (fun _ h0 => absurd h0 List.not_mem_nil)⟩)⟩)⟩)⟩)⟩)⟩)⟩) ?_
    exact t_X5_readsTest_99 hd into gT gF h_into h_gT h_gF k9 hk9 v3 v4 s0 v6 M _ h
def fb_X5_readsTest_75 (k9 : Int → Int → Int → Int → sd_M → Option (Int × sd_M)) (into : Nat) (gT : Nat → Int → sd_M → Option (Int × sd_M)) (gF : Nat → Int → sd_M → Option (Int × sd_M)) (v3 : Int) (v4 : Int) (v6 : Int) (M : sd_M) : Option (Int × sd_M) := (f_X7_kind M).bind fun r1 => if r1.1 = 615 then (fb_X5_readsTest_90 k9 into gT gF v3 v4 v6 1 r1.2) else (fb_X5_readsTest_90 k9 into gT gF v3 v4 v6 0 r1.2)
set_option maxRecDepth 4000 in
theorem t_X5_readsTest_75 {d : Nat} (hd : 1 ≤ d) (into : Nat) (gT : Nat → Int → sd_M → Option (Int × sd_M)) (gF : Nat → Int → sd_M → Option (Int × sd_M)) (h_into : sd_o into 4) (h_gT : ∀ (into : Nat) (x : Int) (M : sd_M) (Rr : Int × sd_M), sd_o into 4 → gT into x M = some Rr → sd_Cal sd_X d 42 [.inr (.inr (some (14))), .inr (.inr (some (1))), .inr (.inr (some (into))), .inl (x)] (sd_rp M) (some (.inl Rr.1), sd_rp Rr.2, 0, 0)) (h_gF : ∀ (into : Nat) (x : Int) (M : sd_M) (Rr : Int × sd_M), sd_o into 4 → gF into x M = some Rr → sd_Cal sd_X d 43 [.inr (.inr (some (14))), .inr (.inr (some (1))), .inr (.inr (some (into))), .inl (x)] (sd_rp M) (some (.inl Rr.1), sd_rp Rr.2, 0, 0)) (k9 : Int → Int → Int → Int → sd_M → Option (Int × sd_M)) (hk9 : ∀ (v3 : Int) (v4 : Int) (v5 : Int) (v6 : Int) (M : sd_M) (Rr : Int × sd_M), k9 v3 v4 v5 v6 M = some Rr → sd_B sd_X d sd_q_X5_readsTest 9 [(0, .inr (.inr (some (14)))), (1, .inr (.inr (some (1)))), (2, .inr (.inr (some (into)))), (3, .inl (v3)), (4, .inl (v4)), (5, .inl (v5)), (6, .inl (v6))] [] M (some (.inl Rr.1), sd_rp Rr.2, 0, 0)) (v3 : Int) (v4 : Int) (v6 : Int) (M : sd_M) (Rr : Int × sd_M) (h : fb_X5_readsTest_75 k9 into gT gF v3 v4 v6 M = some Rr) : sd_B sd_X d sd_q_X5_readsTest 75 [(0, .inr (.inr (some (14)))), (1, .inr (.inr (some (1)))), (2, .inr (.inr (some (into)))), (3, .inl (v3)), (4, .inl (v4)), (6, .inl (v6))] [] M (some (.inl Rr.1), sd_rp Rr.2, 0, 0) := by
  unfold fb_X5_readsTest_75 at h
  refine sd_b_go 1 (pc2 := 76) (lv2 := [(0, .inr (.inr (some (14)))), (1, .inr (.inr (some (1)))), (2, .inr (.inr (some (into)))), (3, .inl (v3)), (4, .inl (v4)), (6, .inl (v6))]) (st2 := [.inr (.inr (some (1)))]) rfl ?_
  obtain ⟨r1, e1, h⟩ := sd_bnd h
  refine sd_b_call [.inr (.inr (some (1)))] [] rfl rfl sd_i_X7_kind rfl rfl (Nat.le_of_ble_eq_true rfl) (sd_rc_v sd_o_1) (m_X7_kind (by omega) e1) ?_
  refine sd_b_go 1 (pc2 := 82) (lv2 := [(0, .inr (.inr (some (14)))), (1, .inr (.inr (some (1)))), (2, .inr (.inr (some (into)))), (3, .inl (v3)), (4, .inl (v4)), (6, .inl (v6))]) (st2 := [.inl (615), .inl (r1.1)]) rfl ?_
  by_cases c2 : r1.1 = 615
  · rw [if_pos c2] at h
    refine sd_b_cf (c := .ne) rfl (decide_eq_false (not_not_intro c2)) (by decide) ?_
    refine sd_b_go 2 (pc2 := 90) (lv2 := [(0, .inr (.inr (some (14)))), (1, .inr (.inr (some (1)))), (2, .inr (.inr (some (into)))), (3, .inl (v3)), (4, .inl (v4)), (6, .inl (v6))]) (st2 := [.inl (1)]) rfl ?_
    refine sd_b_wk [(0, .inr (.inr (some (14)))), (1, .inr (.inr (some (1)))), (2, .inr (.inr (some (into)))), (3, .inl (v3)), (4, .inl (v4)), (6, .inl (v6))] (List.forall_mem_cons.mpr ⟨rfl, (List.forall_mem_cons.mpr ⟨rfl, (List.forall_mem_cons.mpr ⟨rfl, (List.forall_mem_cons.mpr ⟨rfl, (List.forall_mem_cons.mpr ⟨rfl, (List.forall_mem_cons.mpr ⟨rfl, (fun _ h0 => absurd h0 List.not_mem_nil)⟩)⟩)⟩)⟩)⟩)⟩) ?_
    exact t_X5_readsTest_90 hd into gT gF h_into h_gT h_gF k9 hk9 v3 v4 v6 1 r1.2 _ h
  · rw [if_neg c2] at h
    refine sd_b_ct (c := .ne) (tgt := 89) rfl (decide_eq_true c2) (by decide) ?_
    refine sd_b_go 1 (pc2 := 90) (lv2 := [(0, .inr (.inr (some (14)))), (1, .inr (.inr (some (1)))), (2, .inr (.inr (some (into)))), (3, .inl (v3)), (4, .inl (v4)), (6, .inl (v6))]) (st2 := [.inl (0)]) rfl ?_
    refine sd_b_wk [(0, .inr (.inr (some (14)))), (1, .inr (.inr (some (1)))), (2, .inr (.inr (some (into)))), (3, .inl (v3)), (4, .inl (v4)), (6, .inl (v6))] (List.forall_mem_cons.mpr ⟨rfl, (List.forall_mem_cons.mpr ⟨rfl, (List.forall_mem_cons.mpr ⟨rfl, (List.forall_mem_cons.mpr ⟨rfl, (List.forall_mem_cons.mpr ⟨rfl, (List.forall_mem_cons.mpr ⟨rfl, (fun _ h0 => absurd h0 List.not_mem_nil)⟩)⟩)⟩)⟩)⟩)⟩) ?_
    exact t_X5_readsTest_90 hd into gT gF h_into h_gT h_gF k9 hk9 v3 v4 v6 0 r1.2 _ h
def fb_X5_readsTest_56 (k9 : Int → Int → Int → Int → sd_M → Option (Int × sd_M)) (into : Nat) (gT : Nat → Int → sd_M → Option (Int × sd_M)) (gF : Nat → Int → sd_M → Option (Int × sd_M)) (v3 : Int) (v5 : Int) (v6 : Int) (s0 : Int) (M : sd_M) : Option (Int × sd_M) := if s0 = 0 then (if v5 = 0 then (fb_X5_readsTest_75 k9 into gT gF v3 s0 v6 M) else ((f_X4_add into 13 0 M).bind fun r3 => fb_X5_readsTest_75 k9 into gT gF v3 s0 v6 r3.2)) else (fb_X5_readsTest_99 k9 into gT gF v3 s0 v5 v6 M)
set_option maxRecDepth 4000 in
theorem t_X5_readsTest_56 {d : Nat} (hd : 1 ≤ d) (into : Nat) (gT : Nat → Int → sd_M → Option (Int × sd_M)) (gF : Nat → Int → sd_M → Option (Int × sd_M)) (h_into : sd_o into 4) (h_gT : ∀ (into : Nat) (x : Int) (M : sd_M) (Rr : Int × sd_M), sd_o into 4 → gT into x M = some Rr → sd_Cal sd_X d 42 [.inr (.inr (some (14))), .inr (.inr (some (1))), .inr (.inr (some (into))), .inl (x)] (sd_rp M) (some (.inl Rr.1), sd_rp Rr.2, 0, 0)) (h_gF : ∀ (into : Nat) (x : Int) (M : sd_M) (Rr : Int × sd_M), sd_o into 4 → gF into x M = some Rr → sd_Cal sd_X d 43 [.inr (.inr (some (14))), .inr (.inr (some (1))), .inr (.inr (some (into))), .inl (x)] (sd_rp M) (some (.inl Rr.1), sd_rp Rr.2, 0, 0)) (k9 : Int → Int → Int → Int → sd_M → Option (Int × sd_M)) (hk9 : ∀ (v3 : Int) (v4 : Int) (v5 : Int) (v6 : Int) (M : sd_M) (Rr : Int × sd_M), k9 v3 v4 v5 v6 M = some Rr → sd_B sd_X d sd_q_X5_readsTest 9 [(0, .inr (.inr (some (14)))), (1, .inr (.inr (some (1)))), (2, .inr (.inr (some (into)))), (3, .inl (v3)), (4, .inl (v4)), (5, .inl (v5)), (6, .inl (v6))] [] M (some (.inl Rr.1), sd_rp Rr.2, 0, 0)) (v3 : Int) (v5 : Int) (v6 : Int) (s0 : Int) (M : sd_M) (Rr : Int × sd_M) (h : fb_X5_readsTest_56 k9 into gT gF v3 v5 v6 s0 M = some Rr) : sd_B sd_X d sd_q_X5_readsTest 56 [(0, .inr (.inr (some (14)))), (1, .inr (.inr (some (1)))), (2, .inr (.inr (some (into)))), (3, .inl (v3)), (5, .inl (v5)), (6, .inl (v6))] [.inl (s0)] M (some (.inl Rr.1), sd_rp Rr.2, 0, 0) := by
  unfold fb_X5_readsTest_56 at h
  refine sd_b_go 2 (pc2 := 60) (lv2 := [(4, .inl (s0)), (0, .inr (.inr (some (14)))), (1, .inr (.inr (some (1)))), (2, .inr (.inr (some (into)))), (3, .inl (v3)), (5, .inl (v5)), (6, .inl (v6))]) (st2 := [.inl (s0)]) rfl ?_
  by_cases c1 : s0 = 0
  · rw [if_pos c1] at h
    refine sd_b_zf (c := .ne) rfl (decide_eq_false (not_not_intro c1)) (by decide) ?_
    refine sd_b_go 1 (pc2 := 65) (lv2 := [(4, .inl (s0)), (0, .inr (.inr (some (14)))), (1, .inr (.inr (some (1)))), (2, .inr (.inr (some (into)))), (3, .inl (v3)), (5, .inl (v5)), (6, .inl (v6))]) (st2 := [.inl (v5)]) rfl ?_
    by_cases c2 : v5 = 0
    · rw [if_pos c2] at h
      refine sd_b_zt (c := .eq) (tgt := 75) rfl (decide_eq_true c2) (by decide) ?_
      refine sd_b_wk [(0, .inr (.inr (some (14)))), (1, .inr (.inr (some (1)))), (2, .inr (.inr (some (into)))), (3, .inl (v3)), (4, .inl (s0)), (6, .inl (v6))] (List.forall_mem_cons.mpr ⟨rfl, (List.forall_mem_cons.mpr ⟨rfl, (List.forall_mem_cons.mpr ⟨rfl, (List.forall_mem_cons.mpr ⟨rfl, (List.forall_mem_cons.mpr ⟨rfl, (List.forall_mem_cons.mpr ⟨rfl, (fun _ h0 => absurd h0 List.not_mem_nil)⟩)⟩)⟩)⟩)⟩)⟩) ?_
      exact t_X5_readsTest_75 hd into gT gF h_into h_gT h_gF k9 hk9 v3 s0 v6 M _ h
    · rw [if_neg c2] at h
      refine sd_b_zf (c := .eq) rfl (decide_eq_false c2) (by decide) ?_
      refine sd_b_go 3 (pc2 := 72) (lv2 := [(4, .inl (s0)), (0, .inr (.inr (some (14)))), (1, .inr (.inr (some (1)))), (2, .inr (.inr (some (into)))), (3, .inl (v3)), (5, .inl (v5)), (6, .inl (v6))]) (st2 := [.inl (0), .inl (13), .inr (.inr (some (into)))]) rfl ?_
      obtain ⟨r3, e3, h⟩ := sd_bnd h
      refine sd_b_call [.inr (.inr (some (into))), .inl (13), .inl (0)] [] rfl rfl sd_i_X4_add rfl rfl (Nat.le_of_ble_eq_true rfl) (sd_rc_v h_into) (m_X4_add (by omega) h_into e3) ?_
      refine sd_b_wk [(0, .inr (.inr (some (14)))), (1, .inr (.inr (some (1)))), (2, .inr (.inr (some (into)))), (3, .inl (v3)), (4, .inl (s0)), (6, .inl (v6))] (List.forall_mem_cons.mpr ⟨rfl, (List.forall_mem_cons.mpr ⟨rfl, (List.forall_mem_cons.mpr ⟨rfl, (List.forall_mem_cons.mpr ⟨rfl, (List.forall_mem_cons.mpr ⟨rfl, (List.forall_mem_cons.mpr ⟨rfl, (fun _ h0 => absurd h0 List.not_mem_nil)⟩)⟩)⟩)⟩)⟩)⟩) ?_
      exact t_X5_readsTest_75 hd into gT gF h_into h_gT h_gF k9 hk9 v3 s0 v6 r3.2 _ h
  · rw [if_neg c1] at h
    refine sd_b_zt (c := .ne) (tgt := 99) rfl (decide_eq_true c1) (by decide) ?_
    refine sd_b_wk [(0, .inr (.inr (some (14)))), (1, .inr (.inr (some (1)))), (2, .inr (.inr (some (into)))), (3, .inl (v3)), (4, .inl (s0)), (5, .inl (v5)), (6, .inl (v6))] (List.forall_mem_cons.mpr ⟨rfl, (List.forall_mem_cons.mpr ⟨rfl, (List.forall_mem_cons.mpr ⟨rfl, (List.forall_mem_cons.mpr ⟨rfl, (List.forall_mem_cons.mpr ⟨rfl, (List.forall_mem_cons.mpr ⟨rfl, (List.forall_mem_cons.mpr ⟨rfl, (fun _ h0 => absurd h0 List.not_mem_nil)⟩)⟩)⟩)⟩)⟩)⟩)⟩) ?_
    exact t_X5_readsTest_99 hd into gT gF h_into h_gT h_gF k9 hk9 v3 s0 v5 v6 M _ h
def fb_X5_readsTest_41 (k9 : Int → Int → Int → Int → sd_M → Option (Int × sd_M)) (into : Nat) (gT : Nat → Int → sd_M → Option (Int × sd_M)) (gF : Nat → Int → sd_M → Option (Int × sd_M)) (v3 : Int) (v5 : Int) (v6 : Int) (M : sd_M) : Option (Int × sd_M) := (f_X7_kind M).bind fun r1 => if r1.1 = 614 then (fb_X5_readsTest_56 k9 into gT gF v3 v5 v6 1 r1.2) else (fb_X5_readsTest_56 k9 into gT gF v3 v5 v6 0 r1.2)
set_option maxRecDepth 4000 in
theorem t_X5_readsTest_41 {d : Nat} (hd : 1 ≤ d) (into : Nat) (gT : Nat → Int → sd_M → Option (Int × sd_M)) (gF : Nat → Int → sd_M → Option (Int × sd_M)) (h_into : sd_o into 4) (h_gT : ∀ (into : Nat) (x : Int) (M : sd_M) (Rr : Int × sd_M), sd_o into 4 → gT into x M = some Rr → sd_Cal sd_X d 42 [.inr (.inr (some (14))), .inr (.inr (some (1))), .inr (.inr (some (into))), .inl (x)] (sd_rp M) (some (.inl Rr.1), sd_rp Rr.2, 0, 0)) (h_gF : ∀ (into : Nat) (x : Int) (M : sd_M) (Rr : Int × sd_M), sd_o into 4 → gF into x M = some Rr → sd_Cal sd_X d 43 [.inr (.inr (some (14))), .inr (.inr (some (1))), .inr (.inr (some (into))), .inl (x)] (sd_rp M) (some (.inl Rr.1), sd_rp Rr.2, 0, 0)) (k9 : Int → Int → Int → Int → sd_M → Option (Int × sd_M)) (hk9 : ∀ (v3 : Int) (v4 : Int) (v5 : Int) (v6 : Int) (M : sd_M) (Rr : Int × sd_M), k9 v3 v4 v5 v6 M = some Rr → sd_B sd_X d sd_q_X5_readsTest 9 [(0, .inr (.inr (some (14)))), (1, .inr (.inr (some (1)))), (2, .inr (.inr (some (into)))), (3, .inl (v3)), (4, .inl (v4)), (5, .inl (v5)), (6, .inl (v6))] [] M (some (.inl Rr.1), sd_rp Rr.2, 0, 0)) (v3 : Int) (v5 : Int) (v6 : Int) (M : sd_M) (Rr : Int × sd_M) (h : fb_X5_readsTest_41 k9 into gT gF v3 v5 v6 M = some Rr) : sd_B sd_X d sd_q_X5_readsTest 41 [(0, .inr (.inr (some (14)))), (1, .inr (.inr (some (1)))), (2, .inr (.inr (some (into)))), (3, .inl (v3)), (5, .inl (v5)), (6, .inl (v6))] [] M (some (.inl Rr.1), sd_rp Rr.2, 0, 0) := by
  unfold fb_X5_readsTest_41 at h
  refine sd_b_go 1 (pc2 := 42) (lv2 := [(0, .inr (.inr (some (14)))), (1, .inr (.inr (some (1)))), (2, .inr (.inr (some (into)))), (3, .inl (v3)), (5, .inl (v5)), (6, .inl (v6))]) (st2 := [.inr (.inr (some (1)))]) rfl ?_
  obtain ⟨r1, e1, h⟩ := sd_bnd h
  refine sd_b_call [.inr (.inr (some (1)))] [] rfl rfl sd_i_X7_kind rfl rfl (Nat.le_of_ble_eq_true rfl) (sd_rc_v sd_o_1) (m_X7_kind (by omega) e1) ?_
  refine sd_b_go 1 (pc2 := 48) (lv2 := [(0, .inr (.inr (some (14)))), (1, .inr (.inr (some (1)))), (2, .inr (.inr (some (into)))), (3, .inl (v3)), (5, .inl (v5)), (6, .inl (v6))]) (st2 := [.inl (614), .inl (r1.1)]) rfl ?_
  by_cases c2 : r1.1 = 614
  · rw [if_pos c2] at h
    refine sd_b_cf (c := .ne) rfl (decide_eq_false (not_not_intro c2)) (by decide) ?_
    refine sd_b_go 2 (pc2 := 56) (lv2 := [(0, .inr (.inr (some (14)))), (1, .inr (.inr (some (1)))), (2, .inr (.inr (some (into)))), (3, .inl (v3)), (5, .inl (v5)), (6, .inl (v6))]) (st2 := [.inl (1)]) rfl ?_
    refine sd_b_wk [(0, .inr (.inr (some (14)))), (1, .inr (.inr (some (1)))), (2, .inr (.inr (some (into)))), (3, .inl (v3)), (5, .inl (v5)), (6, .inl (v6))] (List.forall_mem_cons.mpr ⟨rfl, (List.forall_mem_cons.mpr ⟨rfl, (List.forall_mem_cons.mpr ⟨rfl, (List.forall_mem_cons.mpr ⟨rfl, (List.forall_mem_cons.mpr ⟨rfl, (List.forall_mem_cons.mpr ⟨rfl, (fun _ h0 => absurd h0 List.not_mem_nil)⟩)⟩)⟩)⟩)⟩)⟩) ?_
    exact t_X5_readsTest_56 hd into gT gF h_into h_gT h_gF k9 hk9 v3 v5 v6 1 r1.2 _ h
  · rw [if_neg c2] at h
    refine sd_b_ct (c := .ne) (tgt := 55) rfl (decide_eq_true c2) (by decide) ?_
    refine sd_b_go 1 (pc2 := 56) (lv2 := [(0, .inr (.inr (some (14)))), (1, .inr (.inr (some (1)))), (2, .inr (.inr (some (into)))), (3, .inl (v3)), (5, .inl (v5)), (6, .inl (v6))]) (st2 := [.inl (0)]) rfl ?_
    refine sd_b_wk [(0, .inr (.inr (some (14)))), (1, .inr (.inr (some (1)))), (2, .inr (.inr (some (into)))), (3, .inl (v3)), (5, .inl (v5)), (6, .inl (v6))] (List.forall_mem_cons.mpr ⟨rfl, (List.forall_mem_cons.mpr ⟨rfl, (List.forall_mem_cons.mpr ⟨rfl, (List.forall_mem_cons.mpr ⟨rfl, (List.forall_mem_cons.mpr ⟨rfl, (List.forall_mem_cons.mpr ⟨rfl, (fun _ h0 => absurd h0 List.not_mem_nil)⟩)⟩)⟩)⟩)⟩)⟩) ?_
    exact t_X5_readsTest_56 hd into gT gF h_into h_gT h_gF k9 hk9 v3 v5 v6 0 r1.2 _ h
def fb_X5_readsTest_9 (into : Nat) (gT : Nat → Int → sd_M → Option (Int × sd_M)) (gF : Nat → Int → sd_M → Option (Int × sd_M)) : Nat → Int → Int → Int → Int → sd_M → Option (Int × sd_M)
  | 0, _, _, _, _, _ => none
  | n + 1, v3, v4, v5, v6, M => if 401 ≤ v6 then (some (0, M)) else ((gF into v3 M).bind fun r2 => if r2.1 = 0 then (some (0, r2.2)) else (if v4 = 0 then (fb_X5_readsTest_41 (fb_X5_readsTest_9 into gT gF n) into gT gF v3 v5 v6 r2.2) else ((f_X4_add into 12 0 r2.2).bind fun r5 => fb_X5_readsTest_41 (fb_X5_readsTest_9 into gT gF n) into gT gF v3 v5 v6 r5.2)))
set_option maxRecDepth 4000 in
theorem t_X5_readsTest_9 {d : Nat} (hd : 1 ≤ d) (into : Nat) (gT : Nat → Int → sd_M → Option (Int × sd_M)) (gF : Nat → Int → sd_M → Option (Int × sd_M)) (h_into : sd_o into 4) (h_gT : ∀ (into : Nat) (x : Int) (M : sd_M) (Rr : Int × sd_M), sd_o into 4 → gT into x M = some Rr → sd_Cal sd_X d 42 [.inr (.inr (some (14))), .inr (.inr (some (1))), .inr (.inr (some (into))), .inl (x)] (sd_rp M) (some (.inl Rr.1), sd_rp Rr.2, 0, 0)) (h_gF : ∀ (into : Nat) (x : Int) (M : sd_M) (Rr : Int × sd_M), sd_o into 4 → gF into x M = some Rr → sd_Cal sd_X d 43 [.inr (.inr (some (14))), .inr (.inr (some (1))), .inr (.inr (some (into))), .inl (x)] (sd_rp M) (some (.inl Rr.1), sd_rp Rr.2, 0, 0)) : ∀ (n : Nat) (v3 : Int) (v4 : Int) (v5 : Int) (v6 : Int) (M : sd_M) (Rr : Int × sd_M), fb_X5_readsTest_9 into gT gF n v3 v4 v5 v6 M = some Rr → sd_B sd_X d sd_q_X5_readsTest 9 [(0, .inr (.inr (some (14)))), (1, .inr (.inr (some (1)))), (2, .inr (.inr (some (into)))), (3, .inl (v3)), (4, .inl (v4)), (5, .inl (v5)), (6, .inl (v6))] [] M (some (.inl Rr.1), sd_rp Rr.2, 0, 0) := by
  intro n
  induction n with
  | zero => intro v3 v4 v5 v6 M Rr h; cases h
  | succ n ih =>
    intro v3 v4 v5 v6 M Rr h
    rw [fb_X5_readsTest_9] at h
    refine sd_b_go 2 (pc2 := 14) (lv2 := [(0, .inr (.inr (some (14)))), (1, .inr (.inr (some (1)))), (2, .inr (.inr (some (into)))), (3, .inl (v3)), (4, .inl (v4)), (5, .inl (v5)), (6, .inl (v6))]) (st2 := [.inl (401), .inl (v6)]) rfl ?_
    by_cases c1 : 401 ≤ v6
    · rw [if_pos c1] at h
      refine sd_b_ct (c := .ge) (tgt := 109) rfl (decide_eq_true c1) (by decide) ?_
      refine sd_b_go 1 (pc2 := 110) (lv2 := [(0, .inr (.inr (some (14)))), (1, .inr (.inr (some (1)))), (2, .inr (.inr (some (into)))), (3, .inl (v3)), (4, .inl (v4)), (5, .inl (v5)), (6, .inl (v6))]) (st2 := [.inl (0)]) rfl ?_
      cases h
      exact sd_b_rt rfl rfl rfl
    · rw [if_neg c1] at h
      refine sd_b_cf (c := .ge) rfl (decide_eq_false c1) (by decide) ?_
      refine sd_b_go 4 (pc2 := 21) (lv2 := [(0, .inr (.inr (some (14)))), (1, .inr (.inr (some (1)))), (2, .inr (.inr (some (into)))), (3, .inl (v3)), (4, .inl (v4)), (5, .inl (v5)), (6, .inl (v6))]) (st2 := [.inl (v3), .inr (.inr (some (into))), .inr (.inr (some (1))), .inr (.inr (some (14)))]) rfl ?_
      obtain ⟨r2, e2, h⟩ := sd_bnd h
      refine sd_b_call [.inr (.inr (some (14))), .inr (.inr (some (1))), .inr (.inr (some (into))), .inl (v3)] [] rfl rfl sd_i_X5_readsFact rfl rfl (Nat.le_of_ble_eq_true rfl) (sd_rc_v sd_o_14) (h_gF _ _ _ _ h_into e2) ?_
      by_cases c3 : r2.1 = 0
      · rw [if_pos c3] at h
        refine sd_b_zf (c := .ne) rfl (decide_eq_false (not_not_intro c3)) (by decide) ?_
        refine sd_b_go 1 (pc2 := 28) (lv2 := [(0, .inr (.inr (some (14)))), (1, .inr (.inr (some (1)))), (2, .inr (.inr (some (into)))), (3, .inl (v3)), (4, .inl (v4)), (5, .inl (v5)), (6, .inl (v6))]) (st2 := [.inl (0)]) rfl ?_
        cases h
        exact sd_b_rt rfl rfl rfl
      · rw [if_neg c3] at h
        refine sd_b_zt (c := .ne) (tgt := 29) rfl (decide_eq_true c3) (by decide) ?_
        refine sd_b_go 1 (pc2 := 31) (lv2 := [(0, .inr (.inr (some (14)))), (1, .inr (.inr (some (1)))), (2, .inr (.inr (some (into)))), (3, .inl (v3)), (4, .inl (v4)), (5, .inl (v5)), (6, .inl (v6))]) (st2 := [.inl (v4)]) rfl ?_
        by_cases c4 : v4 = 0
        · rw [if_pos c4] at h
          refine sd_b_zt (c := .eq) (tgt := 41) rfl (decide_eq_true c4) (by decide) ?_
          refine sd_b_wk [(0, .inr (.inr (some (14)))), (1, .inr (.inr (some (1)))), (2, .inr (.inr (some (into)))), (3, .inl (v3)), (5, .inl (v5)), (6, .inl (v6))] (List.forall_mem_cons.mpr ⟨rfl, (List.forall_mem_cons.mpr ⟨rfl, (List.forall_mem_cons.mpr ⟨rfl, (List.forall_mem_cons.mpr ⟨rfl, (List.forall_mem_cons.mpr ⟨rfl, (List.forall_mem_cons.mpr ⟨rfl, (fun _ h0 => absurd h0 List.not_mem_nil)⟩)⟩)⟩)⟩)⟩)⟩) ?_
          exact t_X5_readsTest_41 hd into gT gF h_into h_gT h_gF (fb_X5_readsTest_9 into gT gF n) ih v3 v5 v6 r2.2 _ h
        · rw [if_neg c4] at h
          refine sd_b_zf (c := .eq) rfl (decide_eq_false c4) (by decide) ?_
          refine sd_b_go 3 (pc2 := 38) (lv2 := [(0, .inr (.inr (some (14)))), (1, .inr (.inr (some (1)))), (2, .inr (.inr (some (into)))), (3, .inl (v3)), (4, .inl (v4)), (5, .inl (v5)), (6, .inl (v6))]) (st2 := [.inl (0), .inl (12), .inr (.inr (some (into)))]) rfl ?_
          obtain ⟨r5, e5, h⟩ := sd_bnd h
          refine sd_b_call [.inr (.inr (some (into))), .inl (12), .inl (0)] [] rfl rfl sd_i_X4_add rfl rfl (Nat.le_of_ble_eq_true rfl) (sd_rc_v h_into) (m_X4_add (by omega) h_into e5) ?_
          refine sd_b_wk [(0, .inr (.inr (some (14)))), (1, .inr (.inr (some (1)))), (2, .inr (.inr (some (into)))), (3, .inl (v3)), (5, .inl (v5)), (6, .inl (v6))] (List.forall_mem_cons.mpr ⟨rfl, (List.forall_mem_cons.mpr ⟨rfl, (List.forall_mem_cons.mpr ⟨rfl, (List.forall_mem_cons.mpr ⟨rfl, (List.forall_mem_cons.mpr ⟨rfl, (List.forall_mem_cons.mpr ⟨rfl, (fun _ h0 => absurd h0 List.not_mem_nil)⟩)⟩)⟩)⟩)⟩)⟩) ?_
          exact t_X5_readsTest_41 hd into gT gF h_into h_gT h_gF (fb_X5_readsTest_9 into gT gF n) ih v3 v5 v6 r5.2 _ h
def fb_X5_readsTest (into : Nat) (gT : Nat → Int → sd_M → Option (Int × sd_M)) (gF : Nat → Int → sd_M → Option (Int × sd_M)) (p3 : Int) (M : sd_M) : Option (Int × sd_M) := fb_X5_readsTest_9 into gT gF 4000 p3 0 0 0 M
set_option maxRecDepth 4000 in
theorem t_X5_readsTest {d : Nat} (hd : 1 ≤ d) (into : Nat) (gT : Nat → Int → sd_M → Option (Int × sd_M)) (gF : Nat → Int → sd_M → Option (Int × sd_M)) (h_into : sd_o into 4) (h_gT : ∀ (into : Nat) (x : Int) (M : sd_M) (Rr : Int × sd_M), sd_o into 4 → gT into x M = some Rr → sd_Cal sd_X d 42 [.inr (.inr (some (14))), .inr (.inr (some (1))), .inr (.inr (some (into))), .inl (x)] (sd_rp M) (some (.inl Rr.1), sd_rp Rr.2, 0, 0)) (h_gF : ∀ (into : Nat) (x : Int) (M : sd_M) (Rr : Int × sd_M), sd_o into 4 → gF into x M = some Rr → sd_Cal sd_X d 43 [.inr (.inr (some (14))), .inr (.inr (some (1))), .inr (.inr (some (into))), .inl (x)] (sd_rp M) (some (.inl Rr.1), sd_rp Rr.2, 0, 0)) (p3 : Int) (M : sd_M) (Rr : Int × sd_M) (h : fb_X5_readsTest into gT gF p3 M = some Rr) : sd_B sd_X d sd_q_X5_readsTest 0 [(0, .inr (.inr (some (14)))), (1, .inr (.inr (some (1)))), (2, .inr (.inr (some (into)))), (3, .inl (p3))] [] M (some (.inl Rr.1), sd_rp Rr.2, 0, 0) := by
  unfold fb_X5_readsTest at h
  refine sd_b_go 6 (pc2 := 9) (lv2 := [(6, .inl (0)), (5, .inl (0)), (4, .inl (0)), (0, .inr (.inr (some (14)))), (1, .inr (.inr (some (1)))), (2, .inr (.inr (some (into)))), (3, .inl (p3))]) (st2 := []) rfl ?_
  refine sd_b_wk [(0, .inr (.inr (some (14)))), (1, .inr (.inr (some (1)))), (2, .inr (.inr (some (into)))), (3, .inl (p3)), (4, .inl (0)), (5, .inl (0)), (6, .inl (0))] (List.forall_mem_cons.mpr ⟨rfl, (List.forall_mem_cons.mpr ⟨rfl, (List.forall_mem_cons.mpr ⟨rfl, (List.forall_mem_cons.mpr ⟨rfl, (List.forall_mem_cons.mpr ⟨rfl, (List.forall_mem_cons.mpr ⟨rfl, (List.forall_mem_cons.mpr ⟨rfl, (fun _ h0 => absurd h0 List.not_mem_nil)⟩)⟩)⟩)⟩)⟩)⟩)⟩) ?_
  exact t_X5_readsTest_9 hd into gT gF h_into h_gT h_gF 4000 p3 0 0 0 M _ h
def fb_X5_readsFact_28 (into : Nat) (gT : Nat → Int → sd_M → Option (Int × sd_M)) (gF : Nat → Int → sd_M → Option (Int × sd_M)) (v3 : Int) (v4 : Int) (M : sd_M) : Option (Int × sd_M) := if v3 < 10 then ((f_X7_step M).bind fun r2 => if v4 = 616 then ((gF into (sd_w (v3 + 1)) r2.2).bind fun r11 => if r11.1 = 0 then (some (0, r11.2)) else ((f_X4_add into 14 0 r11.2).bind fun r13 => some (1, r13.2))) else ((gT into (sd_w (v3 + 1)) r2.2).bind fun r4 => if r4.1 = 0 then (some (0, r4.2)) else ((f_X7_kind r4.2).bind fun r6 => if r6.1 = 93 then ((f_X7_step r6.2).bind fun r8 => some (1, r8.2)) else ((f_X7_fails 0 r6.2).bind fun r9 => if r9.1 = 0 ∨ r9.1 = 1 then some (r9.1, r9.2) else none)))) else ((f_X7_fails 2 M).bind fun r14 => if r14.1 = 0 ∨ r14.1 = 1 then some (r14.1, r14.2) else none)
set_option maxRecDepth 4000 in
theorem t_X5_readsFact_28 {d : Nat} (hd : 4 ≤ d) (into : Nat) (gT : Nat → Int → sd_M → Option (Int × sd_M)) (gF : Nat → Int → sd_M → Option (Int × sd_M)) (h_into : sd_o into 4) (h_gT : ∀ (into : Nat) (x : Int) (M : sd_M) (Rr : Int × sd_M), sd_o into 4 → gT into x M = some Rr → sd_Cal sd_X d 42 [.inr (.inr (some (14))), .inr (.inr (some (1))), .inr (.inr (some (into))), .inl (x)] (sd_rp M) (some (.inl Rr.1), sd_rp Rr.2, 0, 0)) (h_gF : ∀ (into : Nat) (x : Int) (M : sd_M) (Rr : Int × sd_M), sd_o into 4 → gF into x M = some Rr → sd_Cal sd_X d 43 [.inr (.inr (some (14))), .inr (.inr (some (1))), .inr (.inr (some (into))), .inl (x)] (sd_rp M) (some (.inl Rr.1), sd_rp Rr.2, 0, 0)) (v3 : Int) (v4 : Int) (M : sd_M) (Rr : Int × sd_M) (h : fb_X5_readsFact_28 into gT gF v3 v4 M = some Rr) : sd_B sd_X d sd_q_X5_readsFact 28 [(0, .inr (.inr (some (14)))), (1, .inr (.inr (some (1)))), (2, .inr (.inr (some (into)))), (3, .inl (v3)), (4, .inl (v4))] [] M (some (.inl Rr.1), sd_rp Rr.2, 0, 0) := by
  unfold fb_X5_readsFact_28 at h
  refine sd_b_go 2 (pc2 := 31) (lv2 := [(0, .inr (.inr (some (14)))), (1, .inr (.inr (some (1)))), (2, .inr (.inr (some (into)))), (3, .inl (v3)), (4, .inl (v4))]) (st2 := [.inl (10), .inl (v3)]) rfl ?_
  by_cases c1 : v3 < 10
  · rw [if_pos c1] at h
    refine sd_b_ct (c := .lt) (tgt := 40) rfl (decide_eq_true c1) (by decide) ?_
    refine sd_b_go 1 (pc2 := 41) (lv2 := [(0, .inr (.inr (some (14)))), (1, .inr (.inr (some (1)))), (2, .inr (.inr (some (into)))), (3, .inl (v3)), (4, .inl (v4))]) (st2 := [.inr (.inr (some (1)))]) rfl ?_
    obtain ⟨r2, e2, h⟩ := sd_bnd h
    refine sd_b_call [.inr (.inr (some (1)))] [] rfl rfl sd_i_X7_step rfl rfl (Nat.le_of_ble_eq_true rfl) (sd_rc_v sd_o_1) (m_X7_step (by omega) e2) ?_
    refine sd_b_go 2 (pc2 := 49) (lv2 := [(0, .inr (.inr (some (14)))), (1, .inr (.inr (some (1)))), (2, .inr (.inr (some (into)))), (3, .inl (v3)), (4, .inl (v4))]) (st2 := [.inl (616), .inl (v4)]) rfl ?_
    by_cases c3 : v4 = 616
    · rw [if_pos c3] at h
      refine sd_b_cf (c := .ne) rfl (decide_eq_false (not_not_intro c3)) (by decide) ?_
      refine sd_b_go 6 (pc2 := 58) (lv2 := [(0, .inr (.inr (some (14)))), (1, .inr (.inr (some (1)))), (2, .inr (.inr (some (into)))), (3, .inl (v3)), (4, .inl (v4))]) (st2 := [.inl (sd_w (v3 + 1)), .inr (.inr (some (into))), .inr (.inr (some (1))), .inr (.inr (some (14)))]) rfl ?_
      obtain ⟨r11, e11, h⟩ := sd_bnd h
      refine sd_b_call [.inr (.inr (some (14))), .inr (.inr (some (1))), .inr (.inr (some (into))), .inl (sd_w (v3 + 1))] [] rfl rfl sd_i_X5_readsFact rfl rfl (Nat.le_of_ble_eq_true rfl) (sd_rc_v sd_o_14) (h_gF _ _ _ _ h_into e11) ?_
      by_cases c12 : r11.1 = 0
      · rw [if_pos c12] at h
        refine sd_b_zf (c := .ne) rfl (decide_eq_false (not_not_intro c12)) (by decide) ?_
        refine sd_b_go 1 (pc2 := 65) (lv2 := [(0, .inr (.inr (some (14)))), (1, .inr (.inr (some (1)))), (2, .inr (.inr (some (into)))), (3, .inl (v3)), (4, .inl (v4))]) (st2 := [.inl (0)]) rfl ?_
        cases h
        exact sd_b_rt rfl rfl rfl
      · rw [if_neg c12] at h
        refine sd_b_zt (c := .ne) (tgt := 66) rfl (decide_eq_true c12) (by decide) ?_
        refine sd_b_go 3 (pc2 := 70) (lv2 := [(0, .inr (.inr (some (14)))), (1, .inr (.inr (some (1)))), (2, .inr (.inr (some (into)))), (3, .inl (v3)), (4, .inl (v4))]) (st2 := [.inl (0), .inl (14), .inr (.inr (some (into)))]) rfl ?_
        obtain ⟨r13, e13, h⟩ := sd_bnd h
        refine sd_b_call [.inr (.inr (some (into))), .inl (14), .inl (0)] [] rfl rfl sd_i_X4_add rfl rfl (Nat.le_of_ble_eq_true rfl) (sd_rc_v h_into) (m_X4_add (by omega) h_into e13) ?_
        refine sd_b_go 1 (pc2 := 74) (lv2 := [(0, .inr (.inr (some (14)))), (1, .inr (.inr (some (1)))), (2, .inr (.inr (some (into)))), (3, .inl (v3)), (4, .inl (v4))]) (st2 := [.inl (1)]) rfl ?_
        cases h
        exact sd_b_rt rfl rfl rfl
    · rw [if_neg c3] at h
      refine sd_b_ct (c := .ne) (tgt := 75) rfl (decide_eq_true c3) (by decide) ?_
      refine sd_b_go 6 (pc2 := 81) (lv2 := [(0, .inr (.inr (some (14)))), (1, .inr (.inr (some (1)))), (2, .inr (.inr (some (into)))), (3, .inl (v3)), (4, .inl (v4))]) (st2 := [.inl (sd_w (v3 + 1)), .inr (.inr (some (into))), .inr (.inr (some (1))), .inr (.inr (some (14)))]) rfl ?_
      obtain ⟨r4, e4, h⟩ := sd_bnd h
      refine sd_b_call [.inr (.inr (some (14))), .inr (.inr (some (1))), .inr (.inr (some (into))), .inl (sd_w (v3 + 1))] [] rfl rfl sd_i_X5_readsTest rfl rfl (Nat.le_of_ble_eq_true rfl) (sd_rc_v sd_o_14) (h_gT _ _ _ _ h_into e4) ?_
      by_cases c5 : r4.1 = 0
      · rw [if_pos c5] at h
        refine sd_b_zf (c := .ne) rfl (decide_eq_false (not_not_intro c5)) (by decide) ?_
        refine sd_b_go 1 (pc2 := 88) (lv2 := [(0, .inr (.inr (some (14)))), (1, .inr (.inr (some (1)))), (2, .inr (.inr (some (into)))), (3, .inl (v3)), (4, .inl (v4))]) (st2 := [.inl (0)]) rfl ?_
        cases h
        exact sd_b_rt rfl rfl rfl
      · rw [if_neg c5] at h
        refine sd_b_zt (c := .ne) (tgt := 89) rfl (decide_eq_true c5) (by decide) ?_
        refine sd_b_go 1 (pc2 := 90) (lv2 := [(0, .inr (.inr (some (14)))), (1, .inr (.inr (some (1)))), (2, .inr (.inr (some (into)))), (3, .inl (v3)), (4, .inl (v4))]) (st2 := [.inr (.inr (some (1)))]) rfl ?_
        obtain ⟨r6, e6, h⟩ := sd_bnd h
        refine sd_b_call [.inr (.inr (some (1)))] [] rfl rfl sd_i_X7_kind rfl rfl (Nat.le_of_ble_eq_true rfl) (sd_rc_v sd_o_1) (m_X7_kind (by omega) e6) ?_
        refine sd_b_go 1 (pc2 := 95) (lv2 := [(0, .inr (.inr (some (14)))), (1, .inr (.inr (some (1)))), (2, .inr (.inr (some (into)))), (3, .inl (v3)), (4, .inl (v4))]) (st2 := [.inl (93), .inl (r6.1)]) rfl ?_
        by_cases c7 : r6.1 = 93
        · rw [if_pos c7] at h
          refine sd_b_ct (c := .eq) (tgt := 104) rfl (decide_eq_true c7) (by decide) ?_
          refine sd_b_go 1 (pc2 := 105) (lv2 := [(0, .inr (.inr (some (14)))), (1, .inr (.inr (some (1)))), (2, .inr (.inr (some (into)))), (3, .inl (v3)), (4, .inl (v4))]) (st2 := [.inr (.inr (some (1)))]) rfl ?_
          obtain ⟨r8, e8, h⟩ := sd_bnd h
          refine sd_b_call [.inr (.inr (some (1)))] [] rfl rfl sd_i_X7_step rfl rfl (Nat.le_of_ble_eq_true rfl) (sd_rc_v sd_o_1) (m_X7_step (by omega) e8) ?_
          refine sd_b_go 1 (pc2 := 109) (lv2 := [(0, .inr (.inr (some (14)))), (1, .inr (.inr (some (1)))), (2, .inr (.inr (some (into)))), (3, .inl (v3)), (4, .inl (v4))]) (st2 := [.inl (1)]) rfl ?_
          cases h
          exact sd_b_rt rfl rfl rfl
        · rw [if_neg c7] at h
          refine sd_b_cf (c := .eq) rfl (decide_eq_false c7) (by decide) ?_
          refine sd_b_go 2 (pc2 := 100) (lv2 := [(0, .inr (.inr (some (14)))), (1, .inr (.inr (some (1)))), (2, .inr (.inr (some (into)))), (3, .inl (v3)), (4, .inl (v4))]) (st2 := [.inl (0), .inr (.inr (some (1)))]) rfl ?_
          obtain ⟨r9, e9, h⟩ := sd_bnd h
          refine sd_b_call [.inr (.inr (some (1))), .inl (0)] [] rfl rfl sd_i_X7_fails rfl rfl (Nat.le_of_ble_eq_true rfl) (sd_rc_v sd_o_1) (m_X7_fails (by omega) e9) ?_
          obtain ⟨g10, h⟩ := sd_if h
          cases h
          exact sd_b_rz g10 rfl rfl
  · rw [if_neg c1] at h
    refine sd_b_cf (c := .lt) rfl (decide_eq_false c1) (by decide) ?_
    refine sd_b_go 2 (pc2 := 36) (lv2 := [(0, .inr (.inr (some (14)))), (1, .inr (.inr (some (1)))), (2, .inr (.inr (some (into)))), (3, .inl (v3)), (4, .inl (v4))]) (st2 := [.inl (2), .inr (.inr (some (1)))]) rfl ?_
    obtain ⟨r14, e14, h⟩ := sd_bnd h
    refine sd_b_call [.inr (.inr (some (1))), .inl (2)] [] rfl rfl sd_i_X7_fails rfl rfl (Nat.le_of_ble_eq_true rfl) (sd_rc_v sd_o_1) (m_X7_fails (by omega) e14) ?_
    obtain ⟨g15, h⟩ := sd_if h
    cases h
    exact sd_b_rz g15 rfl rfl
def fb_X5_readsFact (into : Nat) (gT : Nat → Int → sd_M → Option (Int × sd_M)) (gF : Nat → Int → sd_M → Option (Int × sd_M)) (p3 : Int) (M : sd_M) : Option (Int × sd_M) := (f_X7_kind M).bind fun r1 => if r1.1 = 616 then (fb_X5_readsFact_28 into gT gF p3 r1.1 r1.2) else (if r1.1 = 91 then (fb_X5_readsFact_28 into gT gF p3 r1.1 r1.2) else ((f_X5_readsComparison into r1.2).bind fun r4 => if r4.1 = 0 ∨ r4.1 = 1 then some (r4.1, r4.2) else none))
set_option maxRecDepth 4000 in
theorem t_X5_readsFact {d : Nat} (hd : 4 ≤ d) (into : Nat) (gT : Nat → Int → sd_M → Option (Int × sd_M)) (gF : Nat → Int → sd_M → Option (Int × sd_M)) (h_into : sd_o into 4) (h_gT : ∀ (into : Nat) (x : Int) (M : sd_M) (Rr : Int × sd_M), sd_o into 4 → gT into x M = some Rr → sd_Cal sd_X d 42 [.inr (.inr (some (14))), .inr (.inr (some (1))), .inr (.inr (some (into))), .inl (x)] (sd_rp M) (some (.inl Rr.1), sd_rp Rr.2, 0, 0)) (h_gF : ∀ (into : Nat) (x : Int) (M : sd_M) (Rr : Int × sd_M), sd_o into 4 → gF into x M = some Rr → sd_Cal sd_X d 43 [.inr (.inr (some (14))), .inr (.inr (some (1))), .inr (.inr (some (into))), .inl (x)] (sd_rp M) (some (.inl Rr.1), sd_rp Rr.2, 0, 0)) (p3 : Int) (M : sd_M) (Rr : Int × sd_M) (h : fb_X5_readsFact into gT gF p3 M = some Rr) : sd_B sd_X d sd_q_X5_readsFact 0 [(0, .inr (.inr (some (14)))), (1, .inr (.inr (some (1)))), (2, .inr (.inr (some (into)))), (3, .inl (p3))] [] M (some (.inl Rr.1), sd_rp Rr.2, 0, 0) := by
  unfold fb_X5_readsFact at h
  refine sd_b_go 1 (pc2 := 1) (lv2 := [(0, .inr (.inr (some (14)))), (1, .inr (.inr (some (1)))), (2, .inr (.inr (some (into)))), (3, .inl (p3))]) (st2 := [.inr (.inr (some (1)))]) rfl ?_
  obtain ⟨r1, e1, h⟩ := sd_bnd h
  refine sd_b_call [.inr (.inr (some (1)))] [] rfl rfl sd_i_X7_kind rfl rfl (Nat.le_of_ble_eq_true rfl) (sd_rc_v sd_o_1) (m_X7_kind (by omega) e1) ?_
  refine sd_b_go 3 (pc2 := 11) (lv2 := [(4, .inl (r1.1)), (0, .inr (.inr (some (14)))), (1, .inr (.inr (some (1)))), (2, .inr (.inr (some (into)))), (3, .inl (p3))]) (st2 := [.inl (616), .inl (r1.1)]) rfl ?_
  by_cases c2 : r1.1 = 616
  · rw [if_pos c2] at h
    refine sd_b_ct (c := .eq) (tgt := 28) rfl (decide_eq_true c2) (by decide) ?_
    refine sd_b_wk [(0, .inr (.inr (some (14)))), (1, .inr (.inr (some (1)))), (2, .inr (.inr (some (into)))), (3, .inl (p3)), (4, .inl (r1.1))] (List.forall_mem_cons.mpr ⟨rfl, (List.forall_mem_cons.mpr ⟨rfl, (List.forall_mem_cons.mpr ⟨rfl, (List.forall_mem_cons.mpr ⟨rfl, (List.forall_mem_cons.mpr ⟨rfl, (fun _ h0 => absurd h0 List.not_mem_nil)⟩)⟩)⟩)⟩)⟩) ?_
    exact t_X5_readsFact_28 hd into gT gF h_into h_gT h_gF p3 r1.1 r1.2 _ h
  · rw [if_neg c2] at h
    refine sd_b_cf (c := .eq) rfl (decide_eq_false c2) (by decide) ?_
    refine sd_b_go 2 (pc2 := 18) (lv2 := [(4, .inl (r1.1)), (0, .inr (.inr (some (14)))), (1, .inr (.inr (some (1)))), (2, .inr (.inr (some (into)))), (3, .inl (p3))]) (st2 := [.inl (91), .inl (r1.1)]) rfl ?_
    by_cases c3 : r1.1 = 91
    · rw [if_pos c3] at h
      refine sd_b_ct (c := .eq) (tgt := 28) rfl (decide_eq_true c3) (by decide) ?_
      refine sd_b_wk [(0, .inr (.inr (some (14)))), (1, .inr (.inr (some (1)))), (2, .inr (.inr (some (into)))), (3, .inl (p3)), (4, .inl (r1.1))] (List.forall_mem_cons.mpr ⟨rfl, (List.forall_mem_cons.mpr ⟨rfl, (List.forall_mem_cons.mpr ⟨rfl, (List.forall_mem_cons.mpr ⟨rfl, (List.forall_mem_cons.mpr ⟨rfl, (fun _ h0 => absurd h0 List.not_mem_nil)⟩)⟩)⟩)⟩)⟩) ?_
      exact t_X5_readsFact_28 hd into gT gF h_into h_gT h_gF p3 r1.1 r1.2 _ h
    · rw [if_neg c3] at h
      refine sd_b_cf (c := .eq) rfl (decide_eq_false c3) (by decide) ?_
      refine sd_b_go 3 (pc2 := 24) (lv2 := [(4, .inl (r1.1)), (0, .inr (.inr (some (14)))), (1, .inr (.inr (some (1)))), (2, .inr (.inr (some (into)))), (3, .inl (p3))]) (st2 := [.inr (.inr (some (into))), .inr (.inr (some (1))), .inr (.inr (some (14)))]) rfl ?_
      obtain ⟨r4, e4, h⟩ := sd_bnd h
      refine sd_b_call [.inr (.inr (some (14))), .inr (.inr (some (1))), .inr (.inr (some (into)))] [] rfl rfl sd_i_X5_readsComparison rfl rfl (Nat.le_of_ble_eq_true rfl) (sd_rc_v sd_o_14) (m_X5_readsComparison (by omega) h_into e4) ?_
      obtain ⟨g5, h⟩ := sd_if h
      cases h
      exact sd_b_rz g5 rfl rfl
def f_X5_rc : Nat → Bool → Nat → Int → sd_M → Option (Int × sd_M)
  | 0, _, _, _, _ => none
  | n + 1, true, a, x, M => fb_X5_readsTest a (f_X5_rc n true) (f_X5_rc n false) x M
  | n + 1, false, a, x, M => fb_X5_readsFact a (f_X5_rc n true) (f_X5_rc n false) x M
theorem m_X5_rc : ∀ (n d : Nat), n + 4 ≤ d → ∀ (into : Nat) (x : Int) (M : sd_M) (Rr : Int × sd_M), sd_o into 4 → (f_X5_rc n true into x M = some Rr → sd_Cal sd_X d 42 [.inr (.inr (some (14))), .inr (.inr (some (1))), .inr (.inr (some (into))), .inl (x)] (sd_rp M) (some (.inl Rr.1), sd_rp Rr.2, 0, 0)) ∧ (f_X5_rc n false into x M = some Rr → sd_Cal sd_X d 43 [.inr (.inr (some (14))), .inr (.inr (some (1))), .inr (.inr (some (into))), .inl (x)] (sd_rp M) (some (.inl Rr.1), sd_rp Rr.2, 0, 0)) := by
  intro n
  induction n with
  | zero => intro d _ into x M Rr _; exact ⟨fun h => (by cases h), fun h => (by cases h)⟩
  | succ n ih =>
    intro d hd into x M Rr ho
    obtain ⟨d, rfl⟩ : ∃ d2, d = d2 + 1 := ⟨d - 1, by omega⟩
    have gT : ∀ (into : Nat) (x : Int) (M : sd_M) (Rr : Int × sd_M), sd_o into 4 → f_X5_rc n true into x M = some Rr → sd_Cal sd_X d 42 [.inr (.inr (some (14))), .inr (.inr (some (1))), .inr (.inr (some (into))), .inl (x)] (sd_rp M) (some (.inl Rr.1), sd_rp Rr.2, 0, 0) := fun a b c e f => (ih d (by omega) a b c e f).1
    have gF : ∀ (into : Nat) (x : Int) (M : sd_M) (Rr : Int × sd_M), sd_o into 4 → f_X5_rc n false into x M = some Rr → sd_Cal sd_X d 43 [.inr (.inr (some (14))), .inr (.inr (some (1))), .inr (.inr (some (into))), .inl (x)] (sd_rp M) (some (.inl Rr.1), sd_rp Rr.2, 0, 0) := fun a b c e f => (ih d (by omega) a b c e f).2
    refine ⟨fun h => ?_, fun h => ?_⟩
    · exact sd_cal_of sd_i_X5_readsTest (Nat.le_of_ble_eq_true rfl) (t_X5_readsTest (by omega) into _ _ ho gT gF x M Rr h)
    · exact sd_cal_of sd_i_X5_readsFact (Nat.le_of_ble_eq_true rfl) (t_X5_readsFact (by omega) into _ _ ho gT gF x M Rr h)
def f_X5_readsTest (into : Nat) (p3 : Int) (M : sd_M) : Option (Int × sd_M) := f_X5_rc 40 true into p3 M
theorem m_X5_readsTest {d : Nat} (hd : 44 ≤ d) {into : Nat} (h_into : sd_o into 4) {p3 : Int} {M : sd_M} {Rr : Int × sd_M} (h : f_X5_readsTest into p3 M = some Rr) : sd_Cal sd_X d 42 [.inr (.inr (some (14))), .inr (.inr (some (1))), .inr (.inr (some (into))), .inl (p3)] (sd_rp M) (some (.inl Rr.1), sd_rp Rr.2, 0, 0) := (m_X5_rc 40 d (by omega) into p3 M Rr h_into).1 h
-- X6_readsClause
def sd_q_X6_readsClause : sd_MI := (yX6_readsClause, cX6_readsClause, 4, (some .boolean), 6, 2, sd_t_X6_readsClause)
set_option maxRecDepth 4000 in
theorem sd_i_X6_readsClause : sd_mL[50]? = some sd_q_X6_readsClause := rfl
def f_X6_readsClause_100 (M : sd_M) : Option (Int × sd_M) := (f_X7_fails 4 M).bind fun r1 => if r1.1 = 0 ∨ r1.1 = 1 then some (r1.1, r1.2) else none
set_option maxRecDepth 4000 in
theorem t_X6_readsClause_100 {X : Nat → List sd_V → List sd_E → sd_A → Prop} {d : Nat} (hd : 3 ≤ d) (M : sd_M) (Rr : Int × sd_M) (h : f_X6_readsClause_100 M = some Rr) : sd_B X d sd_q_X6_readsClause 100 [(1, .inr (.inr (some (1))))] [] M (some (.inl Rr.1), sd_rp Rr.2, 0, 0) := by
  unfold f_X6_readsClause_100 at h
  refine sd_b_go 2 (pc2 := 102) (lv2 := [(1, .inr (.inr (some (1))))]) (st2 := [.inl (4), .inr (.inr (some (1)))]) rfl ?_
  obtain ⟨r1, e1, h⟩ := sd_bnd h
  refine sd_b_call [.inr (.inr (some (1))), .inl (4)] [] rfl rfl sd_i_X7_fails rfl rfl (Nat.le_of_ble_eq_true rfl) (sd_rc_v sd_o_1) (m_X7_fails (by omega) e1) ?_
  obtain ⟨g2, h⟩ := sd_if h
  cases h
  exact sd_b_rz g2 rfl rfl
def f_X6_readsClause_106 (v3 : Int) (M : sd_M) : Option (Int × sd_M) := (f_X7_step M).bind fun r1 => if v3 = 611 then ((f_X7_number 1 999 r1.2).bind fun r8 => if (sd_s r8.2 7 1 r8.1 7 1) = ((-1)) then (some (0, sd_s r8.2 7 1 r8.1)) else (some (1, sd_s r8.2 7 1 r8.1))) else (if v3 = 600 then ((f_X6_readsOffer r1.2).bind fun r6 => if r6.1 = 0 ∨ r6.1 = 1 then some (r6.1, r6.2) else none) else ((f_X6_readsNeed r1.2).bind fun r4 => if r4.1 = 0 ∨ r4.1 = 1 then some (r4.1, r4.2) else none))
set_option maxRecDepth 4000 in
theorem t_X6_readsClause_106 {X : Nat → List sd_V → List sd_E → sd_A → Prop} {d : Nat} (hd : 3 ≤ d) (v3 : Int) (M : sd_M) (Rr : Int × sd_M) (h : f_X6_readsClause_106 v3 M = some Rr) : sd_B X d sd_q_X6_readsClause 106 [(0, .inr (.inr (some (6)))), (1, .inr (.inr (some (1)))), (3, .inl (v3))] [] M (some (.inl Rr.1), sd_rp Rr.2, 0, 0) := by
  unfold f_X6_readsClause_106 at h
  refine sd_b_go 1 (pc2 := 107) (lv2 := [(0, .inr (.inr (some (6)))), (1, .inr (.inr (some (1)))), (3, .inl (v3))]) (st2 := [.inr (.inr (some (1)))]) rfl ?_
  obtain ⟨r1, e1, h⟩ := sd_bnd h
  refine sd_b_call [.inr (.inr (some (1)))] [] rfl rfl sd_i_X7_step rfl rfl (Nat.le_of_ble_eq_true rfl) (sd_rc_v sd_o_1) (m_X7_step (by omega) e1) ?_
  refine sd_b_go 2 (pc2 := 114) (lv2 := [(0, .inr (.inr (some (6)))), (1, .inr (.inr (some (1)))), (3, .inl (v3))]) (st2 := [.inl (611), .inl (v3)]) rfl ?_
  by_cases c2 : v3 = 611
  · rw [if_pos c2] at h
    refine sd_b_cf (c := .ne) rfl (decide_eq_false (not_not_intro c2)) (by decide) ?_
    refine sd_b_go 1 (pc2 := 118) (lv2 := [(0, .inr (.inr (some (6)))), (1, .inr (.inr (some (1)))), (3, .inl (v3))]) (st2 := [.inr (.inr (some (6)))]) rfl ?_
    refine sd_b_gr (k := 0) sd_o_6 rfl rfl rfl ?_
    refine sd_b_go 3 (pc2 := 126) (lv2 := [(0, .inr (.inr (some (6)))), (1, .inr (.inr (some (1)))), (3, .inl (v3))]) (st2 := [.inl (999), .inl (1), .inr (.inr (some (1))), .inr (.inr (some (7)))]) rfl ?_
    obtain ⟨r8, e8, h⟩ := sd_bnd h
    refine sd_b_call [.inr (.inr (some (1))), .inl (1), .inl (999)] [.inr (.inr (some (7)))] rfl rfl sd_i_X7_number rfl rfl (Nat.le_of_ble_eq_true rfl) (sd_rc_v sd_o_1) (m_X7_number (by omega) e8) ?_
    refine sd_b_pi (k := 1) sd_o_7 rfl rfl rfl rfl rfl ?_
    refine sd_b_go 1 (pc2 := 133) (lv2 := [(0, .inr (.inr (some (6)))), (1, .inr (.inr (some (1)))), (3, .inl (v3))]) (st2 := [.inr (.inr (some (6)))]) rfl ?_
    refine sd_b_gr (k := 0) sd_o_6 rfl rfl rfl ?_
    refine sd_b_gi (k := 1) sd_o_7 rfl rfl rfl ?_
    refine sd_b_go 1 (pc2 := 140) (lv2 := [(0, .inr (.inr (some (6)))), (1, .inr (.inr (some (1)))), (3, .inl (v3))]) (st2 := [.inl ((-1)), .inl (sd_s r8.2 7 1 r8.1 7 1)]) rfl ?_
    by_cases c9 : (sd_s r8.2 7 1 r8.1 7 1) = ((-1))
    · rw [if_pos c9] at h
      refine sd_b_ct (c := .eq) (tgt := 147) rfl (decide_eq_true c9) (by decide) ?_
      refine sd_b_go 1 (pc2 := 148) (lv2 := [(0, .inr (.inr (some (6)))), (1, .inr (.inr (some (1)))), (3, .inl (v3))]) (st2 := [.inl (0)]) rfl ?_
      cases h
      exact sd_b_rt rfl rfl rfl
    · rw [if_neg c9] at h
      refine sd_b_cf (c := .eq) rfl (decide_eq_false c9) (by decide) ?_
      refine sd_b_go 2 (pc2 := 148) (lv2 := [(0, .inr (.inr (some (6)))), (1, .inr (.inr (some (1)))), (3, .inl (v3))]) (st2 := [.inl (1)]) rfl ?_
      cases h
      exact sd_b_rt rfl rfl rfl
  · rw [if_neg c2] at h
    refine sd_b_ct (c := .ne) (tgt := 149) rfl (decide_eq_true c2) (by decide) ?_
    refine sd_b_go 2 (pc2 := 153) (lv2 := [(0, .inr (.inr (some (6)))), (1, .inr (.inr (some (1)))), (3, .inl (v3))]) (st2 := [.inl (600), .inl (v3)]) rfl ?_
    by_cases c3 : v3 = 600
    · rw [if_pos c3] at h
      refine sd_b_cf (c := .ne) rfl (decide_eq_false (not_not_intro c3)) (by decide) ?_
      refine sd_b_go 2 (pc2 := 158) (lv2 := [(0, .inr (.inr (some (6)))), (1, .inr (.inr (some (1)))), (3, .inl (v3))]) (st2 := [.inr (.inr (some (1))), .inr (.inr (some (6)))]) rfl ?_
      obtain ⟨r6, e6, h⟩ := sd_bnd h
      refine sd_b_call [.inr (.inr (some (6))), .inr (.inr (some (1)))] [] rfl rfl sd_i_X6_readsOffer rfl rfl (Nat.le_of_ble_eq_true rfl) (sd_rc_v sd_o_6) (m_X6_readsOffer (by omega) e6) ?_
      refine sd_b_go 1 (pc2 := 169) (lv2 := [(0, .inr (.inr (some (6)))), (1, .inr (.inr (some (1)))), (3, .inl (v3))]) (st2 := [.inl (r6.1)]) rfl ?_
      obtain ⟨g7, h⟩ := sd_if h
      cases h
      exact sd_b_rz g7 rfl rfl
    · rw [if_neg c3] at h
      refine sd_b_ct (c := .ne) (tgt := 164) rfl (decide_eq_true c3) (by decide) ?_
      refine sd_b_go 2 (pc2 := 166) (lv2 := [(0, .inr (.inr (some (6)))), (1, .inr (.inr (some (1)))), (3, .inl (v3))]) (st2 := [.inr (.inr (some (1))), .inr (.inr (some (6)))]) rfl ?_
      obtain ⟨r4, e4, h⟩ := sd_bnd h
      refine sd_b_call [.inr (.inr (some (6))), .inr (.inr (some (1)))] [] rfl rfl sd_i_X6_readsNeed rfl rfl (Nat.le_of_ble_eq_true rfl) (sd_rc_v sd_o_6) (m_X6_readsNeed (by omega) e4) ?_
      obtain ⟨g5, h⟩ := sd_if h
      cases h
      exact sd_b_rz g5 rfl rfl
def f_X6_readsClause_81 (v3 : Int) (M : sd_M) : Option (Int × sd_M) := if v3 = 603 then (if (M 7 6) < 12 then (f_X6_readsClause_106 v3 M) else (f_X6_readsClause_100 M)) else (f_X6_readsClause_106 v3 M)
set_option maxRecDepth 4000 in
theorem t_X6_readsClause_81 {X : Nat → List sd_V → List sd_E → sd_A → Prop} {d : Nat} (hd : 3 ≤ d) (v3 : Int) (M : sd_M) (Rr : Int × sd_M) (h : f_X6_readsClause_81 v3 M = some Rr) : sd_B X d sd_q_X6_readsClause 81 [(0, .inr (.inr (some (6)))), (1, .inr (.inr (some (1)))), (3, .inl (v3))] [] M (some (.inl Rr.1), sd_rp Rr.2, 0, 0) := by
  unfold f_X6_readsClause_81 at h
  refine sd_b_go 2 (pc2 := 85) (lv2 := [(0, .inr (.inr (some (6)))), (1, .inr (.inr (some (1)))), (3, .inl (v3))]) (st2 := [.inl (603), .inl (v3)]) rfl ?_
  by_cases c1 : v3 = 603
  · rw [if_pos c1] at h
    refine sd_b_cf (c := .ne) rfl (decide_eq_false (not_not_intro c1)) (by decide) ?_
    refine sd_b_go 1 (pc2 := 89) (lv2 := [(0, .inr (.inr (some (6)))), (1, .inr (.inr (some (1)))), (3, .inl (v3))]) (st2 := [.inr (.inr (some (6)))]) rfl ?_
    refine sd_b_gr (k := 0) sd_o_6 rfl rfl rfl ?_
    refine sd_b_gi (k := 6) sd_o_7 rfl rfl rfl ?_
    refine sd_b_go 1 (pc2 := 97) (lv2 := [(0, .inr (.inr (some (6)))), (1, .inr (.inr (some (1)))), (3, .inl (v3))]) (st2 := [.inl (12), .inl (M 7 6)]) rfl ?_
    by_cases c2 : (M 7 6) < 12
    · rw [if_pos c2] at h
      refine sd_b_ct (c := .lt) (tgt := 106) rfl (decide_eq_true c2) (by decide) ?_
      refine sd_b_wk [(0, .inr (.inr (some (6)))), (1, .inr (.inr (some (1)))), (3, .inl (v3))] (List.forall_mem_cons.mpr ⟨rfl, (List.forall_mem_cons.mpr ⟨rfl, (List.forall_mem_cons.mpr ⟨rfl, (fun _ h0 => absurd h0 List.not_mem_nil)⟩)⟩)⟩) ?_
      exact t_X6_readsClause_106 hd v3 M _ h
    · rw [if_neg c2] at h
      refine sd_b_cf (c := .lt) rfl (decide_eq_false c2) (by decide) ?_
      refine sd_b_wk [(1, .inr (.inr (some (1))))] (List.forall_mem_cons.mpr ⟨rfl, (fun _ h0 => absurd h0 List.not_mem_nil)⟩) ?_
      exact t_X6_readsClause_100 hd M _ h
  · rw [if_neg c1] at h
    refine sd_b_ct (c := .ne) (tgt := 106) rfl (decide_eq_true c1) (by decide) ?_
    refine sd_b_wk [(0, .inr (.inr (some (6)))), (1, .inr (.inr (some (1)))), (3, .inl (v3))] (List.forall_mem_cons.mpr ⟨rfl, (List.forall_mem_cons.mpr ⟨rfl, (List.forall_mem_cons.mpr ⟨rfl, (fun _ h0 => absurd h0 List.not_mem_nil)⟩)⟩)⟩) ?_
    exact t_X6_readsClause_106 hd v3 M _ h
def f_X6_readsClause_59 (v3 : Int) (s0 : Int) (s1 : Int) (M : sd_M) : Option (Int × sd_M) := if s1 = s0 then (if v3 = 600 then (if 9 ≤ (M 7 2) then (f_X6_readsClause_100 M) else (f_X6_readsClause_81 v3 M)) else (f_X6_readsClause_81 v3 M)) else (f_X6_readsClause_100 M)
set_option maxRecDepth 4000 in
theorem t_X6_readsClause_59 {X : Nat → List sd_V → List sd_E → sd_A → Prop} {d : Nat} (hd : 3 ≤ d) (v3 : Int) (s0 : Int) (s1 : Int) (M : sd_M) (Rr : Int × sd_M) (h : f_X6_readsClause_59 v3 s0 s1 M = some Rr) : sd_B X d sd_q_X6_readsClause 59 [(0, .inr (.inr (some (6)))), (1, .inr (.inr (some (1)))), (3, .inl (v3))] [.inl (s0), .inl (s1)] M (some (.inl Rr.1), sd_rp Rr.2, 0, 0) := by
  unfold f_X6_readsClause_59 at h
  by_cases c1 : s1 = s0
  · rw [if_pos c1] at h
    refine sd_b_cf (c := .ne) rfl (decide_eq_false (not_not_intro c1)) (by decide) ?_
    refine sd_b_go 2 (pc2 := 66) (lv2 := [(0, .inr (.inr (some (6)))), (1, .inr (.inr (some (1)))), (3, .inl (v3))]) (st2 := [.inl (600), .inl (v3)]) rfl ?_
    by_cases c2 : v3 = 600
    · rw [if_pos c2] at h
      refine sd_b_cf (c := .ne) rfl (decide_eq_false (not_not_intro c2)) (by decide) ?_
      refine sd_b_go 1 (pc2 := 70) (lv2 := [(0, .inr (.inr (some (6)))), (1, .inr (.inr (some (1)))), (3, .inl (v3))]) (st2 := [.inr (.inr (some (6)))]) rfl ?_
      refine sd_b_gr (k := 0) sd_o_6 rfl rfl rfl ?_
      refine sd_b_gi (k := 2) sd_o_7 rfl rfl rfl ?_
      refine sd_b_go 1 (pc2 := 78) (lv2 := [(0, .inr (.inr (some (6)))), (1, .inr (.inr (some (1)))), (3, .inl (v3))]) (st2 := [.inl (9), .inl (M 7 2)]) rfl ?_
      by_cases c3 : 9 ≤ (M 7 2)
      · rw [if_pos c3] at h
        refine sd_b_ct (c := .ge) (tgt := 100) rfl (decide_eq_true c3) (by decide) ?_
        refine sd_b_wk [(1, .inr (.inr (some (1))))] (List.forall_mem_cons.mpr ⟨rfl, (fun _ h0 => absurd h0 List.not_mem_nil)⟩) ?_
        exact t_X6_readsClause_100 hd M _ h
      · rw [if_neg c3] at h
        refine sd_b_cf (c := .ge) rfl (decide_eq_false c3) (by decide) ?_
        refine sd_b_wk [(0, .inr (.inr (some (6)))), (1, .inr (.inr (some (1)))), (3, .inl (v3))] (List.forall_mem_cons.mpr ⟨rfl, (List.forall_mem_cons.mpr ⟨rfl, (List.forall_mem_cons.mpr ⟨rfl, (fun _ h0 => absurd h0 List.not_mem_nil)⟩)⟩)⟩) ?_
        exact t_X6_readsClause_81 hd v3 M _ h
    · rw [if_neg c2] at h
      refine sd_b_ct (c := .ne) (tgt := 81) rfl (decide_eq_true c2) (by decide) ?_
      refine sd_b_wk [(0, .inr (.inr (some (6)))), (1, .inr (.inr (some (1)))), (3, .inl (v3))] (List.forall_mem_cons.mpr ⟨rfl, (List.forall_mem_cons.mpr ⟨rfl, (List.forall_mem_cons.mpr ⟨rfl, (fun _ h0 => absurd h0 List.not_mem_nil)⟩)⟩)⟩) ?_
      exact t_X6_readsClause_81 hd v3 M _ h
  · rw [if_neg c1] at h
    refine sd_b_ct (c := .ne) (tgt := 100) rfl (decide_eq_true c1) (by decide) ?_
    refine sd_b_wk [(1, .inr (.inr (some (1))))] (List.forall_mem_cons.mpr ⟨rfl, (fun _ h0 => absurd h0 List.not_mem_nil)⟩) ?_
    exact t_X6_readsClause_100 hd M _ h
def f_X6_readsClause_50 (v2 : Int) (v3 : Int) (s0 : Int) (M : sd_M) : Option (Int × sd_M) := if v2 = 0 then (f_X6_readsClause_59 v3 1 s0 M) else (f_X6_readsClause_59 v3 0 s0 M)
set_option maxRecDepth 4000 in
theorem t_X6_readsClause_50 {X : Nat → List sd_V → List sd_E → sd_A → Prop} {d : Nat} (hd : 3 ≤ d) (v2 : Int) (v3 : Int) (s0 : Int) (M : sd_M) (Rr : Int × sd_M) (h : f_X6_readsClause_50 v2 v3 s0 M = some Rr) : sd_B X d sd_q_X6_readsClause 50 [(0, .inr (.inr (some (6)))), (1, .inr (.inr (some (1)))), (2, .inl (v2)), (3, .inl (v3))] [.inl (s0)] M (some (.inl Rr.1), sd_rp Rr.2, 0, 0) := by
  unfold f_X6_readsClause_50 at h
  refine sd_b_go 1 (pc2 := 51) (lv2 := [(0, .inr (.inr (some (6)))), (1, .inr (.inr (some (1)))), (2, .inl (v2)), (3, .inl (v3))]) (st2 := [.inl (v2), .inl (s0)]) rfl ?_
  by_cases c1 : v2 = 0
  · rw [if_pos c1] at h
    refine sd_b_zf (c := .ne) rfl (decide_eq_false (not_not_intro c1)) (by decide) ?_
    refine sd_b_go 2 (pc2 := 59) (lv2 := [(0, .inr (.inr (some (6)))), (1, .inr (.inr (some (1)))), (2, .inl (v2)), (3, .inl (v3))]) (st2 := [.inl (1), .inl (s0)]) rfl ?_
    refine sd_b_wk [(0, .inr (.inr (some (6)))), (1, .inr (.inr (some (1)))), (3, .inl (v3))] (List.forall_mem_cons.mpr ⟨rfl, (List.forall_mem_cons.mpr ⟨rfl, (List.forall_mem_cons.mpr ⟨rfl, (fun _ h0 => absurd h0 List.not_mem_nil)⟩)⟩)⟩) ?_
    exact t_X6_readsClause_59 hd v3 1 s0 M _ h
  · rw [if_neg c1] at h
    refine sd_b_zt (c := .ne) (tgt := 58) rfl (decide_eq_true c1) (by decide) ?_
    refine sd_b_go 1 (pc2 := 59) (lv2 := [(0, .inr (.inr (some (6)))), (1, .inr (.inr (some (1)))), (2, .inl (v2)), (3, .inl (v3))]) (st2 := [.inl (0), .inl (s0)]) rfl ?_
    refine sd_b_wk [(0, .inr (.inr (some (6)))), (1, .inr (.inr (some (1)))), (3, .inl (v3))] (List.forall_mem_cons.mpr ⟨rfl, (List.forall_mem_cons.mpr ⟨rfl, (List.forall_mem_cons.mpr ⟨rfl, (fun _ h0 => absurd h0 List.not_mem_nil)⟩)⟩)⟩) ?_
    exact t_X6_readsClause_59 hd v3 0 s0 M _ h
def f_X6_readsClause_32 (v2 : Int) (v3 : Int) (M : sd_M) : Option (Int × sd_M) := if 40 ≤ v2 then (f_X6_readsClause_100 M) else (if v3 = 611 then (f_X6_readsClause_50 v2 v3 1 M) else (f_X6_readsClause_50 v2 v3 0 M))
set_option maxRecDepth 4000 in
theorem t_X6_readsClause_32 {X : Nat → List sd_V → List sd_E → sd_A → Prop} {d : Nat} (hd : 3 ≤ d) (v2 : Int) (v3 : Int) (M : sd_M) (Rr : Int × sd_M) (h : f_X6_readsClause_32 v2 v3 M = some Rr) : sd_B X d sd_q_X6_readsClause 32 [(0, .inr (.inr (some (6)))), (1, .inr (.inr (some (1)))), (2, .inl (v2)), (3, .inl (v3))] [] M (some (.inl Rr.1), sd_rp Rr.2, 0, 0) := by
  unfold f_X6_readsClause_32 at h
  refine sd_b_go 2 (pc2 := 35) (lv2 := [(0, .inr (.inr (some (6)))), (1, .inr (.inr (some (1)))), (2, .inl (v2)), (3, .inl (v3))]) (st2 := [.inl (40), .inl (v2)]) rfl ?_
  by_cases c1 : 40 ≤ v2
  · rw [if_pos c1] at h
    refine sd_b_ct (c := .ge) (tgt := 100) rfl (decide_eq_true c1) (by decide) ?_
    refine sd_b_wk [(1, .inr (.inr (some (1))))] (List.forall_mem_cons.mpr ⟨rfl, (fun _ h0 => absurd h0 List.not_mem_nil)⟩) ?_
    exact t_X6_readsClause_100 hd M _ h
  · rw [if_neg c1] at h
    refine sd_b_cf (c := .ge) rfl (decide_eq_false c1) (by decide) ?_
    refine sd_b_go 2 (pc2 := 42) (lv2 := [(0, .inr (.inr (some (6)))), (1, .inr (.inr (some (1)))), (2, .inl (v2)), (3, .inl (v3))]) (st2 := [.inl (611), .inl (v3)]) rfl ?_
    by_cases c2 : v3 = 611
    · rw [if_pos c2] at h
      refine sd_b_cf (c := .ne) rfl (decide_eq_false (not_not_intro c2)) (by decide) ?_
      refine sd_b_go 2 (pc2 := 50) (lv2 := [(0, .inr (.inr (some (6)))), (1, .inr (.inr (some (1)))), (2, .inl (v2)), (3, .inl (v3))]) (st2 := [.inl (1)]) rfl ?_
      refine sd_b_wk [(0, .inr (.inr (some (6)))), (1, .inr (.inr (some (1)))), (2, .inl (v2)), (3, .inl (v3))] (List.forall_mem_cons.mpr ⟨rfl, (List.forall_mem_cons.mpr ⟨rfl, (List.forall_mem_cons.mpr ⟨rfl, (List.forall_mem_cons.mpr ⟨rfl, (fun _ h0 => absurd h0 List.not_mem_nil)⟩)⟩)⟩)⟩) ?_
      exact t_X6_readsClause_50 hd v2 v3 1 M _ h
    · rw [if_neg c2] at h
      refine sd_b_ct (c := .ne) (tgt := 49) rfl (decide_eq_true c2) (by decide) ?_
      refine sd_b_go 1 (pc2 := 50) (lv2 := [(0, .inr (.inr (some (6)))), (1, .inr (.inr (some (1)))), (2, .inl (v2)), (3, .inl (v3))]) (st2 := [.inl (0)]) rfl ?_
      refine sd_b_wk [(0, .inr (.inr (some (6)))), (1, .inr (.inr (some (1)))), (2, .inl (v2)), (3, .inl (v3))] (List.forall_mem_cons.mpr ⟨rfl, (List.forall_mem_cons.mpr ⟨rfl, (List.forall_mem_cons.mpr ⟨rfl, (List.forall_mem_cons.mpr ⟨rfl, (fun _ h0 => absurd h0 List.not_mem_nil)⟩)⟩)⟩)⟩) ?_
      exact t_X6_readsClause_50 hd v2 v3 0 M _ h
def f_X6_readsClause (p2 : Int) (M : sd_M) : Option (Int × sd_M) := (f_X7_kind M).bind fun r1 => if r1.1 = 611 then (f_X6_readsClause_32 p2 r1.1 r1.2) else (if r1.1 = 600 then (f_X6_readsClause_32 p2 r1.1 r1.2) else (if r1.1 = 603 then (f_X6_readsClause_32 p2 r1.1 r1.2) else ((f_X7_fails 0 r1.2).bind fun r5 => if r5.1 = 0 ∨ r5.1 = 1 then some (r5.1, r5.2) else none)))
set_option maxRecDepth 4000 in
theorem t_X6_readsClause {X : Nat → List sd_V → List sd_E → sd_A → Prop} {d : Nat} (hd : 3 ≤ d) (p2 : Int) (M : sd_M) (Rr : Int × sd_M) (h : f_X6_readsClause p2 M = some Rr) : sd_B X d sd_q_X6_readsClause 0 [(0, .inr (.inr (some (6)))), (1, .inr (.inr (some (1)))), (2, .inl (p2))] [] M (some (.inl Rr.1), sd_rp Rr.2, 0, 0) := by
  unfold f_X6_readsClause at h
  refine sd_b_go 1 (pc2 := 1) (lv2 := [(0, .inr (.inr (some (6)))), (1, .inr (.inr (some (1)))), (2, .inl (p2))]) (st2 := [.inr (.inr (some (1)))]) rfl ?_
  obtain ⟨r1, e1, h⟩ := sd_bnd h
  refine sd_b_call [.inr (.inr (some (1)))] [] rfl rfl sd_i_X7_kind rfl rfl (Nat.le_of_ble_eq_true rfl) (sd_rc_v sd_o_1) (m_X7_kind (by omega) e1) ?_
  refine sd_b_go 3 (pc2 := 9) (lv2 := [(3, .inl (r1.1)), (0, .inr (.inr (some (6)))), (1, .inr (.inr (some (1)))), (2, .inl (p2))]) (st2 := [.inl (611), .inl (r1.1)]) rfl ?_
  by_cases c2 : r1.1 = 611
  · rw [if_pos c2] at h
    refine sd_b_ct (c := .eq) (tgt := 32) rfl (decide_eq_true c2) (by decide) ?_
    refine sd_b_wk [(0, .inr (.inr (some (6)))), (1, .inr (.inr (some (1)))), (2, .inl (p2)), (3, .inl (r1.1))] (List.forall_mem_cons.mpr ⟨rfl, (List.forall_mem_cons.mpr ⟨rfl, (List.forall_mem_cons.mpr ⟨rfl, (List.forall_mem_cons.mpr ⟨rfl, (fun _ h0 => absurd h0 List.not_mem_nil)⟩)⟩)⟩)⟩) ?_
    exact t_X6_readsClause_32 hd p2 r1.1 r1.2 _ h
  · rw [if_neg c2] at h
    refine sd_b_cf (c := .eq) rfl (decide_eq_false c2) (by decide) ?_
    refine sd_b_go 2 (pc2 := 16) (lv2 := [(3, .inl (r1.1)), (0, .inr (.inr (some (6)))), (1, .inr (.inr (some (1)))), (2, .inl (p2))]) (st2 := [.inl (600), .inl (r1.1)]) rfl ?_
    by_cases c3 : r1.1 = 600
    · rw [if_pos c3] at h
      refine sd_b_ct (c := .eq) (tgt := 32) rfl (decide_eq_true c3) (by decide) ?_
      refine sd_b_wk [(0, .inr (.inr (some (6)))), (1, .inr (.inr (some (1)))), (2, .inl (p2)), (3, .inl (r1.1))] (List.forall_mem_cons.mpr ⟨rfl, (List.forall_mem_cons.mpr ⟨rfl, (List.forall_mem_cons.mpr ⟨rfl, (List.forall_mem_cons.mpr ⟨rfl, (fun _ h0 => absurd h0 List.not_mem_nil)⟩)⟩)⟩)⟩) ?_
      exact t_X6_readsClause_32 hd p2 r1.1 r1.2 _ h
    · rw [if_neg c3] at h
      refine sd_b_cf (c := .eq) rfl (decide_eq_false c3) (by decide) ?_
      refine sd_b_go 2 (pc2 := 23) (lv2 := [(3, .inl (r1.1)), (0, .inr (.inr (some (6)))), (1, .inr (.inr (some (1)))), (2, .inl (p2))]) (st2 := [.inl (603), .inl (r1.1)]) rfl ?_
      by_cases c4 : r1.1 = 603
      · rw [if_pos c4] at h
        refine sd_b_ct (c := .eq) (tgt := 32) rfl (decide_eq_true c4) (by decide) ?_
        refine sd_b_wk [(0, .inr (.inr (some (6)))), (1, .inr (.inr (some (1)))), (2, .inl (p2)), (3, .inl (r1.1))] (List.forall_mem_cons.mpr ⟨rfl, (List.forall_mem_cons.mpr ⟨rfl, (List.forall_mem_cons.mpr ⟨rfl, (List.forall_mem_cons.mpr ⟨rfl, (fun _ h0 => absurd h0 List.not_mem_nil)⟩)⟩)⟩)⟩) ?_
        exact t_X6_readsClause_32 hd p2 r1.1 r1.2 _ h
      · rw [if_neg c4] at h
        refine sd_b_cf (c := .eq) rfl (decide_eq_false c4) (by decide) ?_
        refine sd_b_go 2 (pc2 := 28) (lv2 := [(3, .inl (r1.1)), (0, .inr (.inr (some (6)))), (1, .inr (.inr (some (1)))), (2, .inl (p2))]) (st2 := [.inl (0), .inr (.inr (some (1)))]) rfl ?_
        obtain ⟨r5, e5, h⟩ := sd_bnd h
        refine sd_b_call [.inr (.inr (some (1))), .inl (0)] [] rfl rfl sd_i_X7_fails rfl rfl (Nat.le_of_ble_eq_true rfl) (sd_rc_v sd_o_1) (m_X7_fails (by omega) e5) ?_
        obtain ⟨g6, h⟩ := sd_if h
        cases h
        exact sd_b_rz g6 rfl rfl
theorem m_X6_readsClause {X : Nat → List sd_V → List sd_E → sd_A → Prop} {d : Nat} (hd : 4 ≤ d) {p2 : Int} {M : sd_M} {Rr : Int × sd_M} (h : f_X6_readsClause p2 M = some Rr) : sd_Cal X d 50 [.inr (.inr (some (6))), .inr (.inr (some (1))), .inl (p2)] (sd_rp M) (some (.inl Rr.1), sd_rp Rr.2, 0, 0) := by
  obtain ⟨d, rfl⟩ : ∃ d2, d = d2 + 1 := ⟨d - 1, by omega⟩
  exact sd_cal_of sd_i_X6_readsClause (Nat.le_of_ble_eq_true rfl) (t_X6_readsClause (by omega) p2 M Rr h)
-- X9_order
def sd_q_X9_order : sd_MI := (yX9_order, cX9_order, 2, (some .int), 9, 1, sd_t_X9_order)
set_option maxRecDepth 4000 in
theorem sd_i_X9_order : sd_mL[85]? = some sd_q_X9_order := rfl
def f_X9_order (p1 : Int) (M : sd_M) : Option (Int × sd_M) := if (M 59 0) = 0 then (some ((-1), M)) else ((f_X9_isNumber p1 M).bind fun r2 => if r2.1 = 0 then (some ((-1), r2.2)) else (if p1 = (r2.2 66 0) then (some ((-1), r2.2)) else ((f_X9_remember r2.2).bind fun r5 => (f_X0_reorder 66 p1 r5.2).bind fun r6 => (f_X0_settle 66 r6.2).bind fun r7 => some (r7.1, r7.2))))
set_option maxRecDepth 4000 in
theorem t_X9_order {X : Nat → List sd_V → List sd_E → sd_A → Prop} {d : Nat} (hd : 5 ≤ d) (p1 : Int) (M : sd_M) (Rr : Int × sd_M) (h : f_X9_order p1 M = some Rr) : sd_B X d sd_q_X9_order 0 [(0, .inr (.inr (some (0)))), (1, .inl (p1))] [] M (some (.inl Rr.1), sd_rp Rr.2, 0, 0) := by
  unfold f_X9_order at h
  refine sd_b_go 1 (pc2 := 1) (lv2 := [(0, .inr (.inr (some (0)))), (1, .inl (p1))]) (st2 := [.inr (.inr (some (0)))]) rfl ?_
  refine sd_b_gr (k := 5) sd_o_0 rfl rfl rfl ?_
  refine sd_b_gr (k := 0) sd_o_58 rfl rfl rfl ?_
  refine sd_b_gi (k := 0) sd_o_59 rfl rfl rfl ?_
  by_cases c1 : (M 59 0) = 0
  · rw [if_pos c1] at h
    refine sd_b_zt (c := .eq) (tgt := 34) rfl (decide_eq_true c1) (by decide) ?_
    refine sd_b_go 1 (pc2 := 35) (lv2 := [(0, .inr (.inr (some (0)))), (1, .inl (p1))]) (st2 := [.inl ((-1))]) rfl ?_
    cases h
    exact sd_b_rt rfl rfl rfl
  · rw [if_neg c1] at h
    refine sd_b_zf (c := .eq) rfl (decide_eq_false c1) (by decide) ?_
    refine sd_b_go 1 (pc2 := 14) (lv2 := [(0, .inr (.inr (some (0)))), (1, .inl (p1))]) (st2 := [.inl (p1)]) rfl ?_
    obtain ⟨r2, e2, h⟩ := sd_bnd h
    refine sd_b_call [.inl (p1)] [] rfl rfl sd_i_X9_isNumber rfl rfl (Nat.le_of_ble_eq_true rfl) rfl (m_X9_isNumber (by omega) e2) ?_
    by_cases c3 : r2.1 = 0
    · rw [if_pos c3] at h
      refine sd_b_zt (c := .eq) (tgt := 34) rfl (decide_eq_true c3) (by decide) ?_
      refine sd_b_go 1 (pc2 := 35) (lv2 := [(0, .inr (.inr (some (0)))), (1, .inl (p1))]) (st2 := [.inl ((-1))]) rfl ?_
      cases h
      exact sd_b_rt rfl rfl rfl
    · rw [if_neg c3] at h
      refine sd_b_zf (c := .eq) rfl (decide_eq_false c3) (by decide) ?_
      refine sd_b_go 2 (pc2 := 22) (lv2 := [(0, .inr (.inr (some (0)))), (1, .inl (p1))]) (st2 := [.inr (.inr (some (0))), .inl (p1)]) rfl ?_
      refine sd_b_gr (k := 5) sd_o_0 rfl rfl rfl ?_
      refine sd_b_gr (k := 1) sd_o_58 rfl rfl rfl ?_
      refine sd_b_gi (k := 0) sd_o_66 rfl rfl rfl ?_
      by_cases c4 : p1 = (r2.2 66 0)
      · rw [if_pos c4] at h
        refine sd_b_cf (c := .ne) rfl (decide_eq_false (not_not_intro c4)) (by decide) ?_
        refine sd_b_go 1 (pc2 := 35) (lv2 := [(0, .inr (.inr (some (0)))), (1, .inl (p1))]) (st2 := [.inl ((-1))]) rfl ?_
        cases h
        exact sd_b_rt rfl rfl rfl
      · rw [if_neg c4] at h
        refine sd_b_ct (c := .ne) (tgt := 36) rfl (decide_eq_true c4) (by decide) ?_
        refine sd_b_go 1 (pc2 := 37) (lv2 := [(0, .inr (.inr (some (0)))), (1, .inl (p1))]) (st2 := [.inr (.inr (some (0)))]) rfl ?_
        obtain ⟨r5, e5, h⟩ := sd_bnd h
        refine sd_b_call [.inr (.inr (some (0)))] [] rfl rfl sd_i_X9_remember rfl rfl (Nat.le_of_ble_eq_true rfl) (sd_rc_v sd_o_0) (m_X9_remember (by omega) e5) ?_
        refine sd_b_go 1 (pc2 := 41) (lv2 := [(0, .inr (.inr (some (0)))), (1, .inl (p1))]) (st2 := [.inr (.inr (some (0)))]) rfl ?_
        refine sd_b_gr (k := 5) sd_o_0 rfl rfl rfl ?_
        refine sd_b_gr (k := 1) sd_o_58 rfl rfl rfl ?_
        refine sd_b_go 1 (pc2 := 48) (lv2 := [(0, .inr (.inr (some (0)))), (1, .inl (p1))]) (st2 := [.inl (p1), .inr (.inr (some (66)))]) rfl ?_
        obtain ⟨r6, e6, h⟩ := sd_bnd h
        refine sd_b_call [.inr (.inr (some (66))), .inl (p1)] [] rfl rfl sd_i_X0_reorder rfl rfl (Nat.le_of_ble_eq_true rfl) (sd_rc_v sd_o_66) (m_X0_reorder (by omega) sd_o_66 e6) ?_
        refine sd_b_go 1 (pc2 := 52) (lv2 := [(0, .inr (.inr (some (0)))), (1, .inl (p1))]) (st2 := [.inr (.inr (some (0)))]) rfl ?_
        refine sd_b_gr (k := 5) sd_o_0 rfl rfl rfl ?_
        refine sd_b_gr (k := 1) sd_o_58 rfl rfl rfl ?_
        refine sd_b_go 1 (pc2 := 59) (lv2 := [(0, .inr (.inr (some (0)))), (1, .inl (p1))]) (st2 := [.inr (.inr (some (0))), .inr (.inr (some (66)))]) rfl ?_
        refine sd_b_gr (k := 5) sd_o_0 rfl rfl rfl ?_
        refine sd_b_gr (k := 0) sd_o_58 rfl rfl rfl ?_
        obtain ⟨r7, e7, h⟩ := sd_bnd h
        refine sd_b_call [.inr (.inr (some (66))), .inr (.inr (some (59)))] [] rfl rfl sd_i_X0_settle rfl rfl (Nat.le_of_ble_eq_true rfl) (sd_rc_v sd_o_66) (m_X0_settle (by omega) sd_o_66 e7) ?_
        cases h
        exact sd_b_rt rfl rfl rfl
theorem m_X9_order {X : Nat → List sd_V → List sd_E → sd_A → Prop} {d : Nat} (hd : 6 ≤ d) {p1 : Int} {M : sd_M} {Rr : Int × sd_M} (h : f_X9_order p1 M = some Rr) : sd_Cal X d 85 [.inr (.inr (some (0))), .inl (p1)] (sd_rp M) (some (.inl Rr.1), sd_rp Rr.2, 0, 0) := by
  obtain ⟨d, rfl⟩ : ∃ d2, d = d2 + 1 := ⟨d - 1, by omega⟩
  exact sd_cal_of sd_i_X9_order (Nat.le_of_ble_eq_true rfl) (t_X9_order (by omega) p1 M Rr h)
