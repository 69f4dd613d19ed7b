-- X10_rowOf
def sd_q_X10_rowOf : sd_MI := (yX10_rowOf, cX10_rowOf, 8, none, 10, 1, sd_t_X10_rowOf)
set_option maxRecDepth 4000 in
theorem sd_i_X10_rowOf : sd_mL[222]? = some sd_q_X10_rowOf := rfl
def f_X10_rowOf_69 (k39 : Int → Int → Int → Int → Int → Int → sd_M → Option (Int × sd_M)) (k78 : Int → Int → Int → Int → Int → sd_M → Option (Int × sd_M)) (v2 : Int) (v3 : Int) (v4 : Int) (v5 : Int) (v7 : Int) (s0 : Int) (s1 : Int) (M : sd_M) : Option (Int × sd_M) := k39 v2 v3 v4 v5 (sd_w (s1 - s0)) (sd_w (v7 + 1)) M
set_option maxRecDepth 4000 in
theorem t_X10_rowOf_69 {X : Nat → List sd_V → List sd_E → sd_A → Prop} {d : Nat} (hd : 1 ≤ d) (k39 : Int → Int → Int → Int → Int → Int → sd_M → Option (Int × sd_M)) (k78 : Int → Int → Int → Int → Int → sd_M → Option (Int × sd_M)) (hk39 : ∀ (v2 : Int) (v3 : Int) (v4 : Int) (v5 : Int) (v6 : Int) (v7 : Int) (M : sd_M) (Rr : Int × sd_M), k39 v2 v3 v4 v5 v6 v7 M = some Rr → sd_B X d sd_q_X10_rowOf 39 [(0, .inr (.inr (some (331)))), (2, .inl (v2)), (3, .inl (v3)), (4, .inl (v4)), (5, .inl (v5)), (6, .inl (v6)), (7, .inl (v7))] [] M (none, sd_rp Rr.2, 0, 0)) (hk78 : ∀ (v2 : Int) (v3 : Int) (v4 : Int) (v5 : Int) (v7 : Int) (M : sd_M) (Rr : Int × sd_M), k78 v2 v3 v4 v5 v7 M = some Rr → sd_B X d sd_q_X10_rowOf 78 [(0, .inr (.inr (some (331)))), (2, .inl (v2)), (3, .inl (v3)), (4, .inl (v4)), (5, .inl (v5)), (7, .inl (v7))] [] M (none, sd_rp Rr.2, 0, 0)) (v2 : Int) (v3 : Int) (v4 : Int) (v5 : Int) (v7 : Int) (s0 : Int) (s1 : Int) (M : sd_M) (Rr : Int × sd_M) (h : f_X10_rowOf_69 k39 k78 v2 v3 v4 v5 v7 s0 s1 M = some Rr) : sd_B X d sd_q_X10_rowOf 69 [(0, .inr (.inr (some (331)))), (2, .inl (v2)), (3, .inl (v3)), (4, .inl (v4)), (5, .inl (v5)), (7, .inl (v7))] [.inl (s0), .inl (s1)] M (none, sd_rp Rr.2, 0, 0) := by
  unfold f_X10_rowOf_69 at h
  refine sd_b_go 4 (pc2 := 39) (lv2 := [(7, .inl (sd_w (v7 + 1))), (6, .inl (sd_w (s1 - s0))), (0, .inr (.inr (some (331)))), (2, .inl (v2)), (3, .inl (v3)), (4, .inl (v4)), (5, .inl (v5))]) (st2 := []) rfl ?_
  refine sd_b_wk [(0, .inr (.inr (some (331)))), (2, .inl (v2)), (3, .inl (v3)), (4, .inl (v4)), (5, .inl (v5)), (6, .inl (sd_w (s1 - s0))), (7, .inl (sd_w (v7 + 1)))] (List.forall_mem_cons.mpr ⟨rfl, (List.forall_mem_cons.mpr ⟨rfl, (List.forall_mem_cons.mpr ⟨rfl, (List.forall_mem_cons.mpr ⟨rfl, (List.forall_mem_cons.mpr ⟨rfl, (List.forall_mem_cons.mpr ⟨rfl, (List.forall_mem_cons.mpr ⟨rfl, (fun _ h0 => absurd h0 List.not_mem_nil)⟩)⟩)⟩)⟩)⟩)⟩)⟩) ?_
  exact hk39 v2 v3 v4 v5 (sd_w (s1 - s0)) (sd_w (v7 + 1)) M _ h
def f_X10_rowOf_53 (k39 : Int → Int → Int → Int → Int → Int → sd_M → Option (Int × sd_M)) (k78 : Int → Int → Int → Int → Int → sd_M → Option (Int × sd_M)) (v2 : Int) (v3 : Int) (v4 : Int) (v5 : Int) (v6 : Int) (v7 : Int) (M : sd_M) : Option (Int × sd_M) := (f_X10_isOf v3 v7 M).bind fun r1 => if r1.1 = 0 then (f_X10_rowOf_69 k39 k78 v2 v3 v4 v5 v7 1 v6 r1.2) else (f_X10_rowOf_69 k39 k78 v2 v3 v4 v5 v7 0 v6 r1.2)
set_option maxRecDepth 4000 in
theorem t_X10_rowOf_53 {X : Nat → List sd_V → List sd_E → sd_A → Prop} {d : Nat} (hd : 1 ≤ d) (k39 : Int → Int → Int → Int → Int → Int → sd_M → Option (Int × sd_M)) (k78 : Int → Int → Int → Int → Int → sd_M → Option (Int × sd_M)) (hk39 : ∀ (v2 : Int) (v3 : Int) (v4 : Int) (v5 : Int) (v6 : Int) (v7 : Int) (M : sd_M) (Rr : Int × sd_M), k39 v2 v3 v4 v5 v6 v7 M = some Rr → sd_B X d sd_q_X10_rowOf 39 [(0, .inr (.inr (some (331)))), (2, .inl (v2)), (3, .inl (v3)), (4, .inl (v4)), (5, .inl (v5)), (6, .inl (v6)), (7, .inl (v7))] [] M (none, sd_rp Rr.2, 0, 0)) (hk78 : ∀ (v2 : Int) (v3 : Int) (v4 : Int) (v5 : Int) (v7 : Int) (M : sd_M) (Rr : Int × sd_M), k78 v2 v3 v4 v5 v7 M = some Rr → sd_B X d sd_q_X10_rowOf 78 [(0, .inr (.inr (some (331)))), (2, .inl (v2)), (3, .inl (v3)), (4, .inl (v4)), (5, .inl (v5)), (7, .inl (v7))] [] M (none, sd_rp Rr.2, 0, 0)) (v2 : Int) (v3 : Int) (v4 : Int) (v5 : Int) (v6 : Int) (v7 : Int) (M : sd_M) (Rr : Int × sd_M) (h : f_X10_rowOf_53 k39 k78 v2 v3 v4 v5 v6 v7 M = some Rr) : sd_B X d sd_q_X10_rowOf 53 [(0, .inr (.inr (some (331)))), (2, .inl (v2)), (3, .inl (v3)), (4, .inl (v4)), (5, .inl (v5)), (6, .inl (v6)), (7, .inl (v7))] [] M (none, sd_rp Rr.2, 0, 0) := by
  unfold f_X10_rowOf_53 at h
  refine sd_b_go 3 (pc2 := 58) (lv2 := [(0, .inr (.inr (some (331)))), (2, .inl (v2)), (3, .inl (v3)), (4, .inl (v4)), (5, .inl (v5)), (6, .inl (v6)), (7, .inl (v7))]) (st2 := [.inl (v7), .inl (v3), .inl (v6)]) rfl ?_
  obtain ⟨r1, e1, h⟩ := sd_bnd h
  refine sd_b_call [.inl (v3), .inl (v7)] [.inl (v6)] rfl rfl sd_i_X10_isOf rfl rfl (Nat.le_of_ble_eq_true rfl) rfl (m_X10_isOf (by omega) e1) ?_
  by_cases c2 : r1.1 = 0
  · rw [if_pos c2] at h
    refine sd_b_zt (c := .eq) (tgt := 68) rfl (decide_eq_true c2) (by decide) ?_
    refine sd_b_go 1 (pc2 := 69) (lv2 := [(0, .inr (.inr (some (331)))), (2, .inl (v2)), (3, .inl (v3)), (4, .inl (v4)), (5, .inl (v5)), (6, .inl (v6)), (7, .inl (v7))]) (st2 := [.inl (1), .inl (v6)]) rfl ?_
    refine sd_b_wk [(0, .inr (.inr (some (331)))), (2, .inl (v2)), (3, .inl (v3)), (4, .inl (v4)), (5, .inl (v5)), (7, .inl (v7))] (List.forall_mem_cons.mpr ⟨rfl, (List.forall_mem_cons.mpr ⟨rfl, (List.forall_mem_cons.mpr ⟨rfl, (List.forall_mem_cons.mpr ⟨rfl, (List.forall_mem_cons.mpr ⟨rfl, (List.forall_mem_cons.mpr ⟨rfl, (fun _ h0 => absurd h0 List.not_mem_nil)⟩)⟩)⟩)⟩)⟩)⟩) ?_
    exact t_X10_rowOf_69 hd k39 k78 hk39 hk78 v2 v3 v4 v5 v7 1 v6 r1.2 _ h
  · rw [if_neg c2] at h
    refine sd_b_zf (c := .eq) rfl (decide_eq_false c2) (by decide) ?_
    refine sd_b_go 2 (pc2 := 69) (lv2 := [(0, .inr (.inr (some (331)))), (2, .inl (v2)), (3, .inl (v3)), (4, .inl (v4)), (5, .inl (v5)), (6, .inl (v6)), (7, .inl (v7))]) (st2 := [.inl (0), .inl (v6)]) rfl ?_
    refine sd_b_wk [(0, .inr (.inr (some (331)))), (2, .inl (v2)), (3, .inl (v3)), (4, .inl (v4)), (5, .inl (v5)), (7, .inl (v7))] (List.forall_mem_cons.mpr ⟨rfl, (List.forall_mem_cons.mpr ⟨rfl, (List.forall_mem_cons.mpr ⟨rfl, (List.forall_mem_cons.mpr ⟨rfl, (List.forall_mem_cons.mpr ⟨rfl, (List.forall_mem_cons.mpr ⟨rfl, (fun _ h0 => absurd h0 List.not_mem_nil)⟩)⟩)⟩)⟩)⟩)⟩) ?_
    exact t_X10_rowOf_69 hd k39 k78 hk39 hk78 v2 v3 v4 v5 v7 0 v6 r1.2 _ h
def f_X10_rowOf_39 (k78 : Int → Int → Int → Int → Int → sd_M → Option (Int × sd_M)) : Nat → Int → Int → Int → Int → Int → Int → sd_M → Option (Int × sd_M)
  | 0, _, _, _, _, _, _, _ => none
  | n + 1, v2, v3, v4, v5, v6, v7, M => (f_X10_isOf v3 v7 M).bind fun r1 => if r1.1 = 0 then (if v6 ≤ 0 then (k78 v2 v3 v4 v5 v7 r1.2) else (f_X10_rowOf_53 (f_X10_rowOf_39 k78 n) k78 v2 v3 v4 v5 v6 v7 r1.2)) else (f_X10_rowOf_53 (f_X10_rowOf_39 k78 n) k78 v2 v3 v4 v5 v6 v7 r1.2)
set_option maxRecDepth 4000 in
theorem t_X10_rowOf_39 {X : Nat → List sd_V → List sd_E → sd_A → Prop} {d : Nat} (hd : 1 ≤ d) (k78 : Int → Int → Int → Int → Int → sd_M → Option (Int × sd_M)) (hk78 : ∀ (v2 : Int) (v3 : Int) (v4 : Int) (v5 : Int) (v7 : Int) (M : sd_M) (Rr : Int × sd_M), k78 v2 v3 v4 v5 v7 M = some Rr → sd_B X d sd_q_X10_rowOf 78 [(0, .inr (.inr (some (331)))), (2, .inl (v2)), (3, .inl (v3)), (4, .inl (v4)), (5, .inl (v5)), (7, .inl (v7))] [] M (none, sd_rp Rr.2, 0, 0)) : ∀ (n : Nat) (v2 : Int) (v3 : Int) (v4 : Int) (v5 : Int) (v6 : Int) (v7 : Int) (M : sd_M) (Rr : Int × sd_M), f_X10_rowOf_39 k78 n v2 v3 v4 v5 v6 v7 M = some Rr → sd_B X d sd_q_X10_rowOf 39 [(0, .inr (.inr (some (331)))), (2, .inl (v2)), (3, .inl (v3)), (4, .inl (v4)), (5, .inl (v5)), (6, .inl (v6)), (7, .inl (v7))] [] M (none, sd_rp Rr.2, 0, 0) := by
  intro n
  induction n with
  | zero => intro v2 v3 v4 v5 v6 v7 M Rr h; cases h
  | succ n ih =>
    intro v2 v3 v4 v5 v6 v7 M Rr h
    rw [f_X10_rowOf_39] at h
    refine sd_b_go 2 (pc2 := 42) (lv2 := [(0, .inr (.inr (some (331)))), (2, .inl (v2)), (3, .inl (v3)), (4, .inl (v4)), (5, .inl (v5)), (6, .inl (v6)), (7, .inl (v7))]) (st2 := [.inl (v7), .inl (v3)]) rfl ?_
    obtain ⟨r1, e1, h⟩ := sd_bnd h
    refine sd_b_call [.inl (v3), .inl (v7)] [] rfl rfl sd_i_X10_isOf rfl rfl (Nat.le_of_ble_eq_true rfl) rfl (m_X10_isOf (by omega) e1) ?_
    by_cases c2 : r1.1 = 0
    · rw [if_pos c2] at h
      refine sd_b_zf (c := .ne) rfl (decide_eq_false (not_not_intro c2)) (by decide) ?_
      refine sd_b_go 1 (pc2 := 50) (lv2 := [(0, .inr (.inr (some (331)))), (2, .inl (v2)), (3, .inl (v3)), (4, .inl (v4)), (5, .inl (v5)), (6, .inl (v6)), (7, .inl (v7))]) (st2 := [.inl (v6)]) rfl ?_
      by_cases c3 : v6 ≤ 0
      · rw [if_pos c3] at h
        refine sd_b_zt (c := .le) (tgt := 78) rfl (decide_eq_true c3) (by decide) ?_
        refine sd_b_wk [(0, .inr (.inr (some (331)))), (2, .inl (v2)), (3, .inl (v3)), (4, .inl (v4)), (5, .inl (v5)), (7, .inl (v7))] (List.forall_mem_cons.mpr ⟨rfl, (List.forall_mem_cons.mpr ⟨rfl, (List.forall_mem_cons.mpr ⟨rfl, (List.forall_mem_cons.mpr ⟨rfl, (List.forall_mem_cons.mpr ⟨rfl, (List.forall_mem_cons.mpr ⟨rfl, (fun _ h0 => absurd h0 List.not_mem_nil)⟩)⟩)⟩)⟩)⟩)⟩) ?_
        exact hk78 v2 v3 v4 v5 v7 r1.2 _ h
      · rw [if_neg c3] at h
        refine sd_b_zf (c := .le) rfl (decide_eq_false c3) (by decide) ?_
        refine sd_b_wk [(0, .inr (.inr (some (331)))), (2, .inl (v2)), (3, .inl (v3)), (4, .inl (v4)), (5, .inl (v5)), (6, .inl (v6)), (7, .inl (v7))] (List.forall_mem_cons.mpr ⟨rfl, (List.forall_mem_cons.mpr ⟨rfl, (List.forall_mem_cons.mpr ⟨rfl, (List.forall_mem_cons.mpr ⟨rfl, (List.forall_mem_cons.mpr ⟨rfl, (List.forall_mem_cons.mpr ⟨rfl, (List.forall_mem_cons.mpr ⟨rfl, (fun _ h0 => absurd h0 List.not_mem_nil)⟩)⟩)⟩)⟩)⟩)⟩)⟩) ?_
        exact t_X10_rowOf_53 hd (f_X10_rowOf_39 k78 n) k78 ih hk78 v2 v3 v4 v5 v6 v7 r1.2 _ h
    · rw [if_neg c2] at h
      refine sd_b_zt (c := .ne) (tgt := 53) rfl (decide_eq_true c2) (by decide) ?_
      refine sd_b_wk [(0, .inr (.inr (some (331)))), (2, .inl (v2)), (3, .inl (v3)), (4, .inl (v4)), (5, .inl (v5)), (6, .inl (v6)), (7, .inl (v7))] (List.forall_mem_cons.mpr ⟨rfl, (List.forall_mem_cons.mpr ⟨rfl, (List.forall_mem_cons.mpr ⟨rfl, (List.forall_mem_cons.mpr ⟨rfl, (List.forall_mem_cons.mpr ⟨rfl, (List.forall_mem_cons.mpr ⟨rfl, (List.forall_mem_cons.mpr ⟨rfl, (fun _ h0 => absurd h0 List.not_mem_nil)⟩)⟩)⟩)⟩)⟩)⟩)⟩) ?_
      exact t_X10_rowOf_53 hd (f_X10_rowOf_39 k78 n) k78 ih hk78 v2 v3 v4 v5 v6 v7 r1.2 _ h
def f_X10_rowOf_78 (k7 : Int → Int → Int → sd_M → Option (Int × sd_M)) (v2 : Int) (v3 : Int) (v4 : Int) (v5 : Int) (v7 : Int) (M : sd_M) : Option (Int × sd_M) := if 0 ≤ v7 ∧ v7 < 4 then (if 0 ≤ v4 ∧ v4 < 4 then (if v5 ≠ 0 then (k7 (Int.tmod v2 v5) (sd_or (v3) (sd_shl (1) (v7))) (sd_w (v4 + 1)) (sd_s M 348 v4.toNat (M 347 v7.toNat))) else none) else none) else none
set_option maxRecDepth 4000 in
theorem t_X10_rowOf_78 {X : Nat → List sd_V → List sd_E → sd_A → Prop} {d : Nat} (hd : 1 ≤ d) (k7 : Int → Int → Int → sd_M → Option (Int × sd_M)) (hk7 : ∀ (v2 : Int) (v3 : Int) (v4 : Int) (M : sd_M) (Rr : Int × sd_M), k7 v2 v3 v4 M = some Rr → sd_B X d sd_q_X10_rowOf 7 [(0, .inr (.inr (some (331)))), (2, .inl (v2)), (3, .inl (v3)), (4, .inl (v4))] [] M (none, sd_rp Rr.2, 0, 0)) (v2 : Int) (v3 : Int) (v4 : Int) (v5 : Int) (v7 : Int) (M : sd_M) (Rr : Int × sd_M) (h : f_X10_rowOf_78 k7 v2 v3 v4 v5 v7 M = some Rr) : sd_B X d sd_q_X10_rowOf 78 [(0, .inr (.inr (some (331)))), (2, .inl (v2)), (3, .inl (v3)), (4, .inl (v4)), (5, .inl (v5)), (7, .inl (v7))] [] M (none, sd_rp Rr.2, 0, 0) := by
  unfold f_X10_rowOf_78 at h
  refine sd_b_go 1 (pc2 := 79) (lv2 := [(0, .inr (.inr (some (331)))), (2, .inl (v2)), (3, .inl (v3)), (4, .inl (v4)), (5, .inl (v5)), (7, .inl (v7))]) (st2 := [.inr (.inr (some (331)))]) rfl ?_
  refine sd_b_gr (k := 30) sd_o_331 rfl rfl rfl ?_
  refine sd_b_go 2 (pc2 := 85) (lv2 := [(0, .inr (.inr (some (331)))), (2, .inl (v2)), (3, .inl (v3)), (4, .inl (v4)), (5, .inl (v5)), (7, .inl (v7))]) (st2 := [.inr (.inr (some (331))), .inl (v4), .inr (.inr (some (348)))]) rfl ?_
  refine sd_b_gr (k := 29) sd_o_331 rfl rfl rfl ?_
  refine sd_b_go 1 (pc2 := 90) (lv2 := [(0, .inr (.inr (some (331)))), (2, .inl (v2)), (3, .inl (v3)), (4, .inl (v4)), (5, .inl (v5)), (7, .inl (v7))]) (st2 := [.inl (v7), .inr (.inr (some (347))), .inl (v4), .inr (.inr (some (348)))]) rfl ?_
  obtain ⟨g1, h⟩ := sd_if h
  refine sd_b_ai (sd_oa sd_o_331 (by decide) (off := 16) (List.mem_of_getElem? (i := 15) rfl)) g1 rfl ?_
  obtain ⟨g2, h⟩ := sd_if h
  refine sd_b_si (sd_oa sd_o_331 (by decide) (off := 17) (List.mem_of_getElem? (i := 16) rfl)) g2 rfl ?_
  refine sd_b_go 8 (pc2 := 102) (lv2 := [(3, .inl (sd_or (v3) (sd_shl (1) (v7)))), (0, .inr (.inr (some (331)))), (2, .inl (v2)), (4, .inl (v4)), (5, .inl (v5)), (7, .inl (v7))]) (st2 := [.inl (v5), .inl (v2)]) rfl ?_
  obtain ⟨g3, h⟩ := sd_if h
  refine sd_b_mz g3 rfl ?_
  refine sd_b_go 3 (pc2 := 7) (lv2 := [(4, .inl (sd_w (v4 + 1))), (2, .inl (Int.tmod v2 v5)), (3, .inl (sd_or (v3) (sd_shl (1) (v7)))), (0, .inr (.inr (some (331)))), (5, .inl (v5)), (7, .inl (v7))]) (st2 := []) rfl ?_
  refine sd_b_wk [(0, .inr (.inr (some (331)))), (2, .inl (Int.tmod v2 v5)), (3, .inl (sd_or (v3) (sd_shl (1) (v7)))), (4, .inl (sd_w (v4 + 1)))] (List.forall_mem_cons.mpr ⟨rfl, (List.forall_mem_cons.mpr ⟨rfl, (List.forall_mem_cons.mpr ⟨rfl, (List.forall_mem_cons.mpr ⟨rfl, (fun _ h0 => absurd h0 List.not_mem_nil)⟩)⟩)⟩)⟩) ?_
  exact hk7 (Int.tmod v2 v5) (sd_or (v3) (sd_shl (1) (v7))) (sd_w (v4 + 1)) (sd_s M 348 v4.toNat (M 347 v7.toNat)) _ h
def f_X10_rowOf_7 : Nat → Int → Int → Int → sd_M → Option (Int × sd_M)
  | 0, _, _, _, _ => none
  | n + 1, v2, v3, v4, M => if (M 331 32) ≤ v4 then (some (0, M)) else ((f_X10_waysOf (sd_w ((sd_w ((M 331 32) - 1)) - v4)) M).bind fun r2 => if r2.1 ≠ 0 then (f_X10_rowOf_39 (f_X10_rowOf_78 (f_X10_rowOf_7 n)) 4000 v2 v3 v4 r2.1 (sd_w (Int.tdiv v2 r2.1)) 0 r2.2) else none)
set_option maxRecDepth 4000 in
theorem t_X10_rowOf_7 {X : Nat → List sd_V → List sd_E → sd_A → Prop} {d : Nat} (hd : 1 ≤ d) : ∀ (n : Nat) (v2 : Int) (v3 : Int) (v4 : Int) (M : sd_M) (Rr : Int × sd_M), f_X10_rowOf_7 n v2 v3 v4 M = some Rr → sd_B X d sd_q_X10_rowOf 7 [(0, .inr (.inr (some (331)))), (2, .inl (v2)), (3, .inl (v3)), (4, .inl (v4))] [] M (none, sd_rp Rr.2, 0, 0) := by
  intro n
  induction n with
  | zero => intro v2 v3 v4 M Rr h; cases h
  | succ n ih =>
    intro v2 v3 v4 M Rr h
    rw [f_X10_rowOf_7] at h
    refine sd_b_go 2 (pc2 := 10) (lv2 := [(0, .inr (.inr (some (331)))), (2, .inl (v2)), (3, .inl (v3)), (4, .inl (v4))]) (st2 := [.inr (.inr (some (331))), .inl (v4)]) rfl ?_
    refine sd_b_gi (k := 32) sd_o_331 rfl rfl rfl ?_
    by_cases c1 : (M 331 32) ≤ v4
    · rw [if_pos c1] at h
      refine sd_b_ct (c := .ge) (tgt := 110) rfl (decide_eq_true c1) (by decide) ?_
      cases h
      exact sd_b_rt rfl rfl rfl
    · rw [if_neg c1] at h
      refine sd_b_cf (c := .ge) rfl (decide_eq_false c1) (by decide) ?_
      refine sd_b_go 1 (pc2 := 17) (lv2 := [(0, .inr (.inr (some (331)))), (2, .inl (v2)), (3, .inl (v3)), (4, .inl (v4))]) (st2 := [.inr (.inr (some (331)))]) rfl ?_
      refine sd_b_gi (k := 32) sd_o_331 rfl rfl rfl ?_
      refine sd_b_go 4 (pc2 := 25) (lv2 := [(0, .inr (.inr (some (331)))), (2, .inl (v2)), (3, .inl (v3)), (4, .inl (v4))]) (st2 := [.inl (sd_w ((sd_w ((M 331 32) - 1)) - v4))]) rfl ?_
      obtain ⟨r2, e2, h⟩ := sd_bnd h
      refine sd_b_call [.inl (sd_w ((sd_w ((M 331 32) - 1)) - v4))] [] rfl rfl sd_i_X10_waysOf rfl rfl (Nat.le_of_ble_eq_true rfl) rfl (m_X10_waysOf (by omega) e2) ?_
      refine sd_b_go 3 (pc2 := 33) (lv2 := [(5, .inl (r2.1)), (0, .inr (.inr (some (331)))), (2, .inl (v2)), (3, .inl (v3)), (4, .inl (v4))]) (st2 := [.inl (r2.1), .inl (v2)]) rfl ?_
      obtain ⟨g3, h⟩ := sd_if h
      refine sd_b_dz g3 rfl rfl ?_
      refine sd_b_go 3 (pc2 := 39) (lv2 := [(7, .inl (0)), (6, .inl (sd_w (Int.tdiv v2 r2.1))), (5, .inl (r2.1)), (0, .inr (.inr (some (331)))), (2, .inl (v2)), (3, .inl (v3)), (4, .inl (v4))]) (st2 := []) rfl ?_
      refine sd_b_wk [(0, .inr (.inr (some (331)))), (2, .inl (v2)), (3, .inl (v3)), (4, .inl (v4)), (5, .inl (r2.1)), (6, .inl (sd_w (Int.tdiv v2 r2.1))), (7, .inl (0))] (List.forall_mem_cons.mpr ⟨rfl, (List.forall_mem_cons.mpr ⟨rfl, (List.forall_mem_cons.mpr ⟨rfl, (List.forall_mem_cons.mpr ⟨rfl, (List.forall_mem_cons.mpr ⟨rfl, (List.forall_mem_cons.mpr ⟨rfl, (List.forall_mem_cons.mpr ⟨rfl, (fun _ h0 => absurd h0 List.not_mem_nil)⟩)⟩)⟩)⟩)⟩)⟩)⟩) ?_
      exact t_X10_rowOf_39 hd (f_X10_rowOf_78 (f_X10_rowOf_7 n)) (t_X10_rowOf_78 hd (f_X10_rowOf_7 n) ih) 4000 v2 v3 v4 r2.1 (sd_w (Int.tdiv v2 r2.1)) 0 r2.2 _ h
def f_X10_rowOf (p1 : Int) (M : sd_M) : Option (Int × sd_M) := f_X10_rowOf_7 4000 p1 0 0 M
set_option maxRecDepth 4000 in
theorem t_X10_rowOf {X : Nat → List sd_V → List sd_E → sd_A → Prop} {d : Nat} (hd : 1 ≤ d) (p1 : Int) (M : sd_M) (Rr : Int × sd_M) (h : f_X10_rowOf p1 M = some Rr) : sd_B X d sd_q_X10_rowOf 0 [(0, .inr (.inr (some (331)))), (1, .inl (p1))] [] M (none, sd_rp Rr.2, 0, 0) := by
  unfold f_X10_rowOf at h
  refine sd_b_go 6 (pc2 := 7) (lv2 := [(4, .inl (0)), (3, .inl (0)), (2, .inl (p1)), (0, .inr (.inr (some (331)))), (1, .inl (p1))]) (st2 := []) rfl ?_
  refine sd_b_wk [(0, .inr (.inr (some (331)))), (2, .inl (p1)), (3, .inl (0)), (4, .inl (0))] (List.forall_mem_cons.mpr ⟨rfl, (List.forall_mem_cons.mpr ⟨rfl, (List.forall_mem_cons.mpr ⟨rfl, (List.forall_mem_cons.mpr ⟨rfl, (fun _ h0 => absurd h0 List.not_mem_nil)⟩)⟩)⟩)⟩) ?_
  exact t_X10_rowOf_7 hd 4000 p1 0 0 M _ h
theorem m_X10_rowOf {X : Nat → List sd_V → List sd_E → sd_A → Prop} {d : Nat} (hd : 2 ≤ d) {p1 : Int} {M : sd_M} {Rr : Int × sd_M} (h : f_X10_rowOf p1 M = some Rr) : sd_Cal X d 222 [.inr (.inr (some (331))), .inl (p1)] (sd_rp M) (none, sd_rp Rr.2, 0, 0) := by
  obtain ⟨d, rfl⟩ : ∃ d2, d = d2 + 1 := ⟨d - 1, by omega⟩
  exact sd_cal_of sd_i_X10_rowOf (Nat.le_of_ble_eq_true rfl) (t_X10_rowOf (by omega) p1 M Rr h)
-- X10_triesRow
def sd_q_X10_triesRow : sd_MI := (yX10_triesRow, cX10_triesRow, 5, none, 10, 1, sd_t_X10_triesRow)
set_option maxRecDepth 4000 in
theorem sd_i_X10_triesRow : sd_mL[223]? = some sd_q_X10_triesRow := rfl
def f_X10_triesRow_2 (k30 : Int → sd_M → Option (Int × sd_M)) : Nat → Int → Int → sd_M → Option (Int × sd_M)
  | 0, _, _, _ => none
  | n + 1, v1, v2, M => if (M 331 32) ≤ v2 then (k30 v1 M) else (if 0 ≤ v2 ∧ v2 < 4 then ((f_X10_takes (M 348 v2.toNat) M).bind fun r3 => (f_X10_settlesAll r3.2).bind fun r4 => f_X10_triesRow_2 k30 n v1 (sd_w (v2 + 1)) r4.2) else none)
set_option maxRecDepth 4000 in
theorem t_X10_triesRow_2 {X : Nat → List sd_V → List sd_E → sd_A → Prop} {d : Nat} (hd : 6 ≤ d) (k30 : Int → sd_M → Option (Int × sd_M)) (hk30 : ∀ (v1 : Int) (M : sd_M) (Rr : Int × sd_M), k30 v1 M = some Rr → sd_B X d sd_q_X10_triesRow 30 [(0, .inr (.inr (some (331)))), (1, .inl (v1))] [] M (none, sd_rp Rr.2, 0, 0)) : ∀ (n : Nat) (v1 : Int) (v2 : Int) (M : sd_M) (Rr : Int × sd_M), f_X10_triesRow_2 k30 n v1 v2 M = some Rr → sd_B X d sd_q_X10_triesRow 2 [(0, .inr (.inr (some (331)))), (1, .inl (v1)), (2, .inl (v2))] [] M (none, sd_rp Rr.2, 0, 0) := by
  intro n
  induction n with
  | zero => intro v1 v2 M Rr h; cases h
  | succ n ih =>
    intro v1 v2 M Rr h
    rw [f_X10_triesRow_2] at h
    refine sd_b_go 2 (pc2 := 4) (lv2 := [(0, .inr (.inr (some (331)))), (1, .inl (v1)), (2, .inl (v2))]) (st2 := [.inr (.inr (some (331))), .inl (v2)]) rfl ?_
    refine sd_b_gi (k := 32) sd_o_331 rfl rfl rfl ?_
    by_cases c1 : (M 331 32) ≤ v2
    · rw [if_pos c1] at h
      refine sd_b_ct (c := .ge) (tgt := 30) rfl (decide_eq_true c1) (by decide) ?_
      refine sd_b_wk [(0, .inr (.inr (some (331)))), (1, .inl (v1))] (List.forall_mem_cons.mpr ⟨rfl, (List.forall_mem_cons.mpr ⟨rfl, (fun _ h0 => absurd h0 List.not_mem_nil)⟩)⟩) ?_
      exact hk30 v1 M _ h
    · rw [if_neg c1] at h
      refine sd_b_cf (c := .ge) rfl (decide_eq_false c1) (by decide) ?_
      refine sd_b_go 2 (pc2 := 12) (lv2 := [(0, .inr (.inr (some (331)))), (1, .inl (v1)), (2, .inl (v2))]) (st2 := [.inr (.inr (some (331))), .inr (.inr (some (331)))]) rfl ?_
      refine sd_b_gr (k := 30) sd_o_331 rfl rfl rfl ?_
      refine sd_b_go 1 (pc2 := 16) (lv2 := [(0, .inr (.inr (some (331)))), (1, .inl (v1)), (2, .inl (v2))]) (st2 := [.inl (v2), .inr (.inr (some (348))), .inr (.inr (some (331)))]) rfl ?_
      obtain ⟨g2, h⟩ := sd_if h
      refine sd_b_ai (sd_oa sd_o_331 (by decide) (off := 17) (List.mem_of_getElem? (i := 16) rfl)) g2 rfl ?_
      obtain ⟨r3, e3, h⟩ := sd_bnd h
      refine sd_b_call [.inr (.inr (some (331))), .inl (M 348 v2.toNat)] [] rfl rfl sd_i_X10_takes rfl rfl (Nat.le_of_ble_eq_true rfl) (sd_rc_v sd_o_331) (m_X10_takes (by omega) e3) ?_
      refine sd_b_go 1 (pc2 := 21) (lv2 := [(0, .inr (.inr (some (331)))), (1, .inl (v1)), (2, .inl (v2))]) (st2 := [.inr (.inr (some (331)))]) rfl ?_
      obtain ⟨r4, e4, h⟩ := sd_bnd h
      refine sd_b_call [.inr (.inr (some (331)))] [] rfl rfl sd_i_X10_settlesAll rfl rfl (Nat.le_of_ble_eq_true rfl) (sd_rc_v sd_o_331) (m_X10_settlesAll (by omega) e4) ?_
      refine sd_b_go 2 (pc2 := 2) (lv2 := [(2, .inl (sd_w (v2 + 1))), (0, .inr (.inr (some (331)))), (1, .inl (v1))]) (st2 := []) rfl ?_
      refine sd_b_wk [(0, .inr (.inr (some (331)))), (1, .inl (v1)), (2, .inl (sd_w (v2 + 1)))] (List.forall_mem_cons.mpr ⟨rfl, (List.forall_mem_cons.mpr ⟨rfl, (List.forall_mem_cons.mpr ⟨rfl, (fun _ h0 => absurd h0 List.not_mem_nil)⟩)⟩)⟩) ?_
      exact ih v1 (sd_w (v2 + 1)) r4.2 _ h
def f_X10_triesRow_89 : Nat → Int → sd_M → Option (Int × sd_M)
  | 0, _, _ => none
  | n + 1, v4, M => if (M 331 32) ≤ v4 then (some (0, M)) else (if 0 ≤ v4 ∧ v4 < 4 then (if 0 ≤ v4 ∧ v4 < 4 then (f_X10_triesRow_89 n (sd_w (v4 + 1)) (sd_s M 349 v4.toNat (M 348 v4.toNat))) else none) else none)
set_option maxRecDepth 4000 in
theorem t_X10_triesRow_89 {X : Nat → List sd_V → List sd_E → sd_A → Prop} {d : Nat} (hd : 6 ≤ d) : ∀ (n : Nat) (v4 : Int) (M : sd_M) (Rr : Int × sd_M), f_X10_triesRow_89 n v4 M = some Rr → sd_B X d sd_q_X10_triesRow 89 [(0, .inr (.inr (some (331)))), (4, .inl (v4))] [] M (none, sd_rp Rr.2, 0, 0) := by
  intro n
  induction n with
  | zero => intro v4 M Rr h; cases h
  | succ n ih =>
    intro v4 M Rr h
    rw [f_X10_triesRow_89] at h
    refine sd_b_go 2 (pc2 := 92) (lv2 := [(0, .inr (.inr (some (331)))), (4, .inl (v4))]) (st2 := [.inr (.inr (some (331))), .inl (v4)]) rfl ?_
    refine sd_b_gi (k := 32) sd_o_331 rfl rfl rfl ?_
    by_cases c1 : (M 331 32) ≤ v4
    · rw [if_pos c1] at h
      refine sd_b_ct (c := .ge) (tgt := 118) rfl (decide_eq_true c1) (by decide) ?_
      cases h
      exact sd_b_rt rfl rfl rfl
    · rw [if_neg c1] at h
      refine sd_b_cf (c := .ge) rfl (decide_eq_false c1) (by decide) ?_
      refine sd_b_go 1 (pc2 := 99) (lv2 := [(0, .inr (.inr (some (331)))), (4, .inl (v4))]) (st2 := [.inr (.inr (some (331)))]) rfl ?_
      refine sd_b_gr (k := 31) sd_o_331 rfl rfl rfl ?_
      refine sd_b_go 2 (pc2 := 105) (lv2 := [(0, .inr (.inr (some (331)))), (4, .inl (v4))]) (st2 := [.inr (.inr (some (331))), .inl (v4), .inr (.inr (some (349)))]) rfl ?_
      refine sd_b_gr (k := 30) sd_o_331 rfl rfl rfl ?_
      refine sd_b_go 1 (pc2 := 110) (lv2 := [(0, .inr (.inr (some (331)))), (4, .inl (v4))]) (st2 := [.inl (v4), .inr (.inr (some (348))), .inl (v4), .inr (.inr (some (349)))]) rfl ?_
      obtain ⟨g2, h⟩ := sd_if h
      refine sd_b_ai (sd_oa sd_o_331 (by decide) (off := 17) (List.mem_of_getElem? (i := 16) rfl)) g2 rfl ?_
      obtain ⟨g3, h⟩ := sd_if h
      refine sd_b_si (sd_oa sd_o_331 (by decide) (off := 18) (List.mem_of_getElem? (i := 17) rfl)) g3 rfl ?_
      refine sd_b_go 2 (pc2 := 89) (lv2 := [(4, .inl (sd_w (v4 + 1))), (0, .inr (.inr (some (331))))]) (st2 := []) rfl ?_
      refine sd_b_wk [(0, .inr (.inr (some (331)))), (4, .inl (sd_w (v4 + 1)))] (List.forall_mem_cons.mpr ⟨rfl, (List.forall_mem_cons.mpr ⟨rfl, (fun _ h0 => absurd h0 List.not_mem_nil)⟩)⟩) ?_
      exact ih (sd_w (v4 + 1)) (sd_s M 349 v4.toNat (M 348 v4.toNat)) _ h
def f_X10_triesRow_76 (v2 : Int) (v3 : Int) (M : sd_M) : Option (Int × sd_M) := f_X10_triesRow_89 4000 0 (sd_s (sd_s M 331 33 v2) 331 34 v3)
set_option maxRecDepth 4000 in
theorem t_X10_triesRow_76 {X : Nat → List sd_V → List sd_E → sd_A → Prop} {d : Nat} (hd : 6 ≤ d) (v2 : Int) (v3 : Int) (M : sd_M) (Rr : Int × sd_M) (h : f_X10_triesRow_76 v2 v3 M = some Rr) : sd_B X d sd_q_X10_triesRow 76 [(0, .inr (.inr (some (331)))), (2, .inl (v2)), (3, .inl (v3))] [] M (none, sd_rp Rr.2, 0, 0) := by
  unfold f_X10_triesRow_76 at h
  refine sd_b_go 2 (pc2 := 78) (lv2 := [(0, .inr (.inr (some (331)))), (2, .inl (v2)), (3, .inl (v3))]) (st2 := [.inl (v2), .inr (.inr (some (331)))]) rfl ?_
  refine sd_b_pi (k := 33) sd_o_331 rfl rfl rfl rfl rfl ?_
  refine sd_b_go 2 (pc2 := 83) (lv2 := [(0, .inr (.inr (some (331)))), (2, .inl (v2)), (3, .inl (v3))]) (st2 := [.inl (v3), .inr (.inr (some (331)))]) rfl ?_
  refine sd_b_pi (k := 34) sd_o_331 rfl rfl rfl rfl rfl ?_
  refine sd_b_go 2 (pc2 := 89) (lv2 := [(4, .inl (0)), (0, .inr (.inr (some (331)))), (2, .inl (v2)), (3, .inl (v3))]) (st2 := []) rfl ?_
  refine sd_b_wk [(0, .inr (.inr (some (331)))), (4, .inl (0))] (List.forall_mem_cons.mpr ⟨rfl, (List.forall_mem_cons.mpr ⟨rfl, (fun _ h0 => absurd h0 List.not_mem_nil)⟩)⟩) ?_
  exact t_X10_triesRow_89 hd 4000 0 (sd_s (sd_s M 331 33 v2) 331 34 v3) _ h
def f_X10_triesRow_30 (v1 : Int) (M : sd_M) : Option (Int × sd_M) := (f_X10_shortNow M).bind fun r1 => (f_X10_laysBack r1.2).bind fun r2 => if v1 = 0 then (if (r2.2 331 33) < r1.1 then (some (0, r2.2)) else (if r1.1 = (r2.2 331 33) then (if (r2.2 331 34) < (r1.2 341 60) then (f_X10_triesRow_76 r1.1 (r1.2 341 60) r2.2) else (some (0, r2.2))) else (f_X10_triesRow_76 r1.1 (r1.2 341 60) r2.2))) else (f_X10_triesRow_76 r1.1 (r1.2 341 60) r2.2)
set_option maxRecDepth 4000 in
theorem t_X10_triesRow_30 {X : Nat → List sd_V → List sd_E → sd_A → Prop} {d : Nat} (hd : 6 ≤ d) (v1 : Int) (M : sd_M) (Rr : Int × sd_M) (h : f_X10_triesRow_30 v1 M = some Rr) : sd_B X d sd_q_X10_triesRow 30 [(0, .inr (.inr (some (331)))), (1, .inl (v1))] [] M (none, sd_rp Rr.2, 0, 0) := by
  unfold f_X10_triesRow_30 at h
  refine sd_b_go 1 (pc2 := 31) (lv2 := [(0, .inr (.inr (some (331)))), (1, .inl (v1))]) (st2 := [.inr (.inr (some (331)))]) rfl ?_
  obtain ⟨r1, e1, h⟩ := sd_bnd h
  refine sd_b_call [.inr (.inr (some (331)))] [] rfl rfl sd_i_X10_shortNow rfl rfl (Nat.le_of_ble_eq_true rfl) (sd_rc_v sd_o_331) (m_X10_shortNow (by omega) e1) ?_
  refine sd_b_go 2 (pc2 := 36) (lv2 := [(2, .inl (r1.1)), (0, .inr (.inr (some (331)))), (1, .inl (v1))]) (st2 := [.inr (.inr (some (331)))]) rfl ?_
  refine sd_b_gr (k := 20) sd_o_331 rfl rfl rfl ?_
  refine sd_b_go 1 (pc2 := 41) (lv2 := [(2, .inl (r1.1)), (0, .inr (.inr (some (331)))), (1, .inl (v1))]) (st2 := [.inl (60), .inr (.inr (some (341)))]) rfl ?_
  refine sd_b_ai (i := 60) (sd_oa sd_o_331 (by decide) (off := 10) (List.mem_of_getElem? (i := 9) rfl)) (by decide) rfl ?_
  refine sd_b_go 2 (pc2 := 44) (lv2 := [(3, .inl (r1.2 341 60)), (2, .inl (r1.1)), (0, .inr (.inr (some (331)))), (1, .inl (v1))]) (st2 := [.inr (.inr (some (331)))]) rfl ?_
  obtain ⟨r2, e2, h⟩ := sd_bnd h
  refine sd_b_call [.inr (.inr (some (331)))] [] rfl rfl sd_i_X10_laysBack rfl rfl (Nat.le_of_ble_eq_true rfl) (sd_rc_v sd_o_331) (m_X10_laysBack (by omega) e2) ?_
  refine sd_b_go 1 (pc2 := 48) (lv2 := [(3, .inl (r1.2 341 60)), (2, .inl (r1.1)), (0, .inr (.inr (some (331)))), (1, .inl (v1))]) (st2 := [.inl (v1)]) rfl ?_
  by_cases c3 : v1 = 0
  · rw [if_pos c3] at h
    refine sd_b_zf (c := .ne) rfl (decide_eq_false (not_not_intro c3)) (by decide) ?_
    refine sd_b_go 2 (pc2 := 53) (lv2 := [(3, .inl (r1.2 341 60)), (2, .inl (r1.1)), (0, .inr (.inr (some (331)))), (1, .inl (v1))]) (st2 := [.inr (.inr (some (331))), .inl (r1.1)]) rfl ?_
    refine sd_b_gi (k := 33) sd_o_331 rfl rfl rfl ?_
    by_cases c4 : (r2.2 331 33) < r1.1
    · rw [if_pos c4] at h
      refine sd_b_ct (c := .gt) (tgt := 75) rfl (decide_eq_true c4) (by decide) ?_
      cases h
      exact sd_b_rt rfl rfl rfl
    · rw [if_neg c4] at h
      refine sd_b_cf (c := .gt) rfl (decide_eq_false c4) (by decide) ?_
      refine sd_b_go 2 (pc2 := 61) (lv2 := [(3, .inl (r1.2 341 60)), (2, .inl (r1.1)), (0, .inr (.inr (some (331)))), (1, .inl (v1))]) (st2 := [.inr (.inr (some (331))), .inl (r1.1)]) rfl ?_
      refine sd_b_gi (k := 33) sd_o_331 rfl rfl rfl ?_
      by_cases c5 : r1.1 = (r2.2 331 33)
      · rw [if_pos c5] at h
        refine sd_b_cf (c := .ne) rfl (decide_eq_false (not_not_intro c5)) (by decide) ?_
        refine sd_b_go 2 (pc2 := 69) (lv2 := [(3, .inl (r1.2 341 60)), (2, .inl (r1.1)), (0, .inr (.inr (some (331)))), (1, .inl (v1))]) (st2 := [.inr (.inr (some (331))), .inl (r1.2 341 60)]) rfl ?_
        refine sd_b_gi (k := 34) sd_o_331 rfl rfl rfl ?_
        by_cases c6 : (r2.2 331 34) < (r1.2 341 60)
        · rw [if_pos c6] at h
          refine sd_b_ct (c := .gt) (tgt := 76) rfl (decide_eq_true c6) (by decide) ?_
          refine sd_b_wk [(0, .inr (.inr (some (331)))), (2, .inl (r1.1)), (3, .inl (r1.2 341 60))] (List.forall_mem_cons.mpr ⟨rfl, (List.forall_mem_cons.mpr ⟨rfl, (List.forall_mem_cons.mpr ⟨rfl, (fun _ h0 => absurd h0 List.not_mem_nil)⟩)⟩)⟩) ?_
          exact t_X10_triesRow_76 hd r1.1 (r1.2 341 60) r2.2 _ h
        · rw [if_neg c6] at h
          refine sd_b_cf (c := .gt) rfl (decide_eq_false c6) (by decide) ?_
          cases h
          exact sd_b_rt rfl rfl rfl
      · rw [if_neg c5] at h
        refine sd_b_ct (c := .ne) (tgt := 76) rfl (decide_eq_true c5) (by decide) ?_
        refine sd_b_wk [(0, .inr (.inr (some (331)))), (2, .inl (r1.1)), (3, .inl (r1.2 341 60))] (List.forall_mem_cons.mpr ⟨rfl, (List.forall_mem_cons.mpr ⟨rfl, (List.forall_mem_cons.mpr ⟨rfl, (fun _ h0 => absurd h0 List.not_mem_nil)⟩)⟩)⟩) ?_
        exact t_X10_triesRow_76 hd r1.1 (r1.2 341 60) r2.2 _ h
  · rw [if_neg c3] at h
    refine sd_b_zt (c := .ne) (tgt := 76) rfl (decide_eq_true c3) (by decide) ?_
    refine sd_b_wk [(0, .inr (.inr (some (331)))), (2, .inl (r1.1)), (3, .inl (r1.2 341 60))] (List.forall_mem_cons.mpr ⟨rfl, (List.forall_mem_cons.mpr ⟨rfl, (List.forall_mem_cons.mpr ⟨rfl, (fun _ h0 => absurd h0 List.not_mem_nil)⟩)⟩)⟩) ?_
    exact t_X10_triesRow_76 hd r1.1 (r1.2 341 60) r2.2 _ h
def f_X10_triesRow (p1 : Int) (M : sd_M) : Option (Int × sd_M) := f_X10_triesRow_2 (f_X10_triesRow_30) 4000 p1 0 M
set_option maxRecDepth 4000 in
theorem t_X10_triesRow {X : Nat → List sd_V → List sd_E → sd_A → Prop} {d : Nat} (hd : 6 ≤ d) (p1 : Int) (M : sd_M) (Rr : Int × sd_M) (h : f_X10_triesRow p1 M = some Rr) : sd_B X d sd_q_X10_triesRow 0 [(0, .inr (.inr (some (331)))), (1, .inl (p1))] [] M (none, sd_rp Rr.2, 0, 0) := by
  unfold f_X10_triesRow at h
  refine sd_b_go 2 (pc2 := 2) (lv2 := [(2, .inl (0)), (0, .inr (.inr (some (331)))), (1, .inl (p1))]) (st2 := []) rfl ?_
  refine sd_b_wk [(0, .inr (.inr (some (331)))), (1, .inl (p1)), (2, .inl (0))] (List.forall_mem_cons.mpr ⟨rfl, (List.forall_mem_cons.mpr ⟨rfl, (List.forall_mem_cons.mpr ⟨rfl, (fun _ h0 => absurd h0 List.not_mem_nil)⟩)⟩)⟩) ?_
  exact t_X10_triesRow_2 hd (f_X10_triesRow_30) (t_X10_triesRow_30 hd) 4000 p1 0 M _ h
theorem m_X10_triesRow {X : Nat → List sd_V → List sd_E → sd_A → Prop} {d : Nat} (hd : 7 ≤ d) {p1 : Int} {M : sd_M} {Rr : Int × sd_M} (h : f_X10_triesRow p1 M = some Rr) : sd_Cal X d 223 [.inr (.inr (some (331))), .inl (p1)] (sd_rp M) (none, sd_rp Rr.2, 0, 0) := by
  obtain ⟨d, rfl⟩ : ∃ d2, d = d2 + 1 := ⟨d - 1, by omega⟩
  exact sd_cal_of sd_i_X10_triesRow (Nat.le_of_ble_eq_true rfl) (t_X10_triesRow (by omega) p1 M Rr h)
-- X10_rows
def sd_q_X10_rows : sd_MI := (yX10_rows, cX10_rows, 3, (some .int), 10, 1, sd_t_X10_rows)
set_option maxRecDepth 4000 in
theorem sd_i_X10_rows : sd_mL[224]? = some sd_q_X10_rows := rfl
def f_X10_rows_78 (k29 : Int → Int → sd_M → Option (Int × sd_M)) (k84 : Int → sd_M → Option (Int × sd_M)) (v1 : Int) (v2 : Int) (M : sd_M) : Option (Int × sd_M) := k29 v1 (sd_w (v2 + 1)) M
set_option maxRecDepth 4000 in
theorem t_X10_rows_78 {X : Nat → List sd_V → List sd_E → sd_A → Prop} {d : Nat} (hd : 7 ≤ d) (k29 : Int → Int → sd_M → Option (Int × sd_M)) (k84 : Int → sd_M → Option (Int × sd_M)) (hk29 : ∀ (v1 : Int) (v2 : Int) (M : sd_M) (Rr : Int × sd_M), k29 v1 v2 M = some Rr → sd_B X d sd_q_X10_rows 29 [(0, .inr (.inr (some (331)))), (1, .inl (v1)), (2, .inl (v2))] [] M (some (.inl Rr.1), sd_rp Rr.2, 0, 0)) (hk84 : ∀ (v1 : Int) (M : sd_M) (Rr : Int × sd_M), k84 v1 M = some Rr → sd_B X d sd_q_X10_rows 84 [(0, .inr (.inr (some (331)))), (1, .inl (v1))] [] M (some (.inl Rr.1), sd_rp Rr.2, 0, 0)) (v1 : Int) (v2 : Int) (M : sd_M) (Rr : Int × sd_M) (h : f_X10_rows_78 k29 k84 v1 v2 M = some Rr) : sd_B X d sd_q_X10_rows 78 [(0, .inr (.inr (some (331)))), (1, .inl (v1)), (2, .inl (v2))] [] M (some (.inl Rr.1), sd_rp Rr.2, 0, 0) := by
  unfold f_X10_rows_78 at h
  refine sd_b_go 2 (pc2 := 29) (lv2 := [(2, .inl (sd_w (v2 + 1))), (0, .inr (.inr (some (331)))), (1, .inl (v1))]) (st2 := []) rfl ?_
  refine sd_b_wk [(0, .inr (.inr (some (331)))), (1, .inl (v1)), (2, .inl (sd_w (v2 + 1)))] (List.forall_mem_cons.mpr ⟨rfl, (List.forall_mem_cons.mpr ⟨rfl, (List.forall_mem_cons.mpr ⟨rfl, (fun _ h0 => absurd h0 List.not_mem_nil)⟩)⟩)⟩) ?_
  exact hk29 v1 (sd_w (v2 + 1)) M _ h
def f_X10_rows_29 (k84 : Int → sd_M → Option (Int × sd_M)) : Nat → Int → Int → sd_M → Option (Int × sd_M)
  | 0, _, _, _ => none
  | n + 1, v1, v2, M => if (M 341 2) ≤ v2 then (k84 v1 M) else (if 4 ≤ (M 331 32) then (k84 v1 M) else ((f_X10_isWaiting v2 M).bind fun r3 => if r3.1 = 0 then (f_X10_rows_78 (f_X10_rows_29 k84 n) k84 v1 v2 r3.2) else (if 0 ≤ (r3.2 331 32) ∧ (r3.2 331 32) < 4 then (f_X10_rows_78 (f_X10_rows_29 k84 n) k84 v1 v2 (sd_s (sd_s r3.2 347 (r3.2 331 32).toNat v2) 331 32 (sd_w ((sd_s r3.2 347 (r3.2 331 32).toNat v2 331 32) + 1)))) else none)))
set_option maxRecDepth 4000 in
theorem t_X10_rows_29 {X : Nat → List sd_V → List sd_E → sd_A → Prop} {d : Nat} (hd : 7 ≤ d) (k84 : Int → sd_M → Option (Int × sd_M)) (hk84 : ∀ (v1 : Int) (M : sd_M) (Rr : Int × sd_M), k84 v1 M = some Rr → sd_B X d sd_q_X10_rows 84 [(0, .inr (.inr (some (331)))), (1, .inl (v1))] [] M (some (.inl Rr.1), sd_rp Rr.2, 0, 0)) : ∀ (n : Nat) (v1 : Int) (v2 : Int) (M : sd_M) (Rr : Int × sd_M), f_X10_rows_29 k84 n v1 v2 M = some Rr → sd_B X d sd_q_X10_rows 29 [(0, .inr (.inr (some (331)))), (1, .inl (v1)), (2, .inl (v2))] [] M (some (.inl Rr.1), sd_rp Rr.2, 0, 0) := by
  intro n
  induction n with
  | zero => intro v1 v2 M Rr h; cases h
  | succ n ih =>
    intro v1 v2 M Rr h
    rw [f_X10_rows_29] at h
    refine sd_b_go 2 (pc2 := 31) (lv2 := [(0, .inr (.inr (some (331)))), (1, .inl (v1)), (2, .inl (v2))]) (st2 := [.inr (.inr (some (331))), .inl (v2)]) rfl ?_
    refine sd_b_gr (k := 20) sd_o_331 rfl rfl rfl ?_
    refine sd_b_go 1 (pc2 := 35) (lv2 := [(0, .inr (.inr (some (331)))), (1, .inl (v1)), (2, .inl (v2))]) (st2 := [.inl (2), .inr (.inr (some (341))), .inl (v2)]) rfl ?_
    refine sd_b_ai (i := 2) (sd_oa sd_o_331 (by decide) (off := 10) (List.mem_of_getElem? (i := 9) rfl)) (by decide) rfl ?_
    by_cases c1 : (M 341 2) ≤ v2
    · rw [if_pos c1] at h
      refine sd_b_ct (c := .ge) (tgt := 84) rfl (decide_eq_true c1) (by decide) ?_
      refine sd_b_wk [(0, .inr (.inr (some (331)))), (1, .inl (v1))] (List.forall_mem_cons.mpr ⟨rfl, (List.forall_mem_cons.mpr ⟨rfl, (fun _ h0 => absurd h0 List.not_mem_nil)⟩)⟩) ?_
      exact hk84 v1 M _ h
    · rw [if_neg c1] at h
      refine sd_b_cf (c := .ge) rfl (decide_eq_false c1) (by decide) ?_
      refine sd_b_go 1 (pc2 := 40) (lv2 := [(0, .inr (.inr (some (331)))), (1, .inl (v1)), (2, .inl (v2))]) (st2 := [.inr (.inr (some (331)))]) rfl ?_
      refine sd_b_gi (k := 32) sd_o_331 rfl rfl rfl ?_
      refine sd_b_go 1 (pc2 := 44) (lv2 := [(0, .inr (.inr (some (331)))), (1, .inl (v1)), (2, .inl (v2))]) (st2 := [.inl (4), .inl (M 331 32)]) rfl ?_
      by_cases c2 : 4 ≤ (M 331 32)
      · rw [if_pos c2] at h
        refine sd_b_ct (c := .ge) (tgt := 84) rfl (decide_eq_true c2) (by decide) ?_
        refine sd_b_wk [(0, .inr (.inr (some (331)))), (1, .inl (v1))] (List.forall_mem_cons.mpr ⟨rfl, (List.forall_mem_cons.mpr ⟨rfl, (fun _ h0 => absurd h0 List.not_mem_nil)⟩)⟩) ?_
        exact hk84 v1 M _ h
      · rw [if_neg c2] at h
        refine sd_b_cf (c := .ge) rfl (decide_eq_false c2) (by decide) ?_
        refine sd_b_go 2 (pc2 := 49) (lv2 := [(0, .inr (.inr (some (331)))), (1, .inl (v1)), (2, .inl (v2))]) (st2 := [.inl (v2), .inr (.inr (some (331)))]) rfl ?_
        obtain ⟨r3, e3, h⟩ := sd_bnd h
        refine sd_b_call [.inr (.inr (some (331))), .inl (v2)] [] rfl rfl sd_i_X10_isWaiting rfl rfl (Nat.le_of_ble_eq_true rfl) (sd_rc_v sd_o_331) (m_X10_isWaiting (by omega) e3) ?_
        by_cases c4 : r3.1 = 0
        · rw [if_pos c4] at h
          refine sd_b_zf (c := .ne) rfl (decide_eq_false (not_not_intro c4)) (by decide) ?_
          refine sd_b_go 1 (pc2 := 78) (lv2 := [(0, .inr (.inr (some (331)))), (1, .inl (v1)), (2, .inl (v2))]) (st2 := []) rfl ?_
          refine sd_b_wk [(0, .inr (.inr (some (331)))), (1, .inl (v1)), (2, .inl (v2))] (List.forall_mem_cons.mpr ⟨rfl, (List.forall_mem_cons.mpr ⟨rfl, (List.forall_mem_cons.mpr ⟨rfl, (fun _ h0 => absurd h0 List.not_mem_nil)⟩)⟩)⟩) ?_
          exact t_X10_rows_78 hd (f_X10_rows_29 k84 n) k84 ih hk84 v1 v2 r3.2 _ h
        · rw [if_neg c4] at h
          refine sd_b_zt (c := .ne) (tgt := 58) rfl (decide_eq_true c4) (by decide) ?_
          refine sd_b_go 1 (pc2 := 59) (lv2 := [(0, .inr (.inr (some (331)))), (1, .inl (v1)), (2, .inl (v2))]) (st2 := [.inr (.inr (some (331)))]) rfl ?_
          refine sd_b_gr (k := 29) sd_o_331 rfl rfl rfl ?_
          refine sd_b_go 1 (pc2 := 63) (lv2 := [(0, .inr (.inr (some (331)))), (1, .inl (v1)), (2, .inl (v2))]) (st2 := [.inr (.inr (some (331))), .inr (.inr (some (347)))]) rfl ?_
          refine sd_b_gi (k := 32) sd_o_331 rfl rfl rfl ?_
          refine sd_b_go 1 (pc2 := 67) (lv2 := [(0, .inr (.inr (some (331)))), (1, .inl (v1)), (2, .inl (v2))]) (st2 := [.inl (v2), .inl (r3.2 331 32), .inr (.inr (some (347)))]) rfl ?_
          obtain ⟨g5, h⟩ := sd_if h
          refine sd_b_si (sd_oa sd_o_331 (by decide) (off := 16) (List.mem_of_getElem? (i := 15) rfl)) g5 rfl ?_
          refine sd_b_go 2 (pc2 := 70) (lv2 := [(0, .inr (.inr (some (331)))), (1, .inl (v1)), (2, .inl (v2))]) (st2 := [.inr (.inr (some (331))), .inr (.inr (some (331)))]) rfl ?_
          refine sd_b_gi (k := 32) sd_o_331 rfl rfl rfl ?_
          refine sd_b_go 2 (pc2 := 75) (lv2 := [(0, .inr (.inr (some (331)))), (1, .inl (v1)), (2, .inl (v2))]) (st2 := [.inl (sd_w ((sd_s r3.2 347 (r3.2 331 32).toNat v2 331 32) + 1)), .inr (.inr (some (331)))]) rfl ?_
          refine sd_b_pi (k := 32) sd_o_331 rfl rfl rfl rfl rfl ?_
          refine sd_b_wk [(0, .inr (.inr (some (331)))), (1, .inl (v1)), (2, .inl (v2))] (List.forall_mem_cons.mpr ⟨rfl, (List.forall_mem_cons.mpr ⟨rfl, (List.forall_mem_cons.mpr ⟨rfl, (fun _ h0 => absurd h0 List.not_mem_nil)⟩)⟩)⟩) ?_
          exact t_X10_rows_78 hd (f_X10_rows_29 k84 n) k84 ih hk84 v1 v2 (sd_s (sd_s r3.2 347 (r3.2 331 32).toNat v2) 331 32 (sd_w ((sd_s r3.2 347 (r3.2 331 32).toNat v2 331 32) + 1))) _ h
def f_X10_rows_116 (k90 : Int → Int → sd_M → Option (Int × sd_M)) (k125 : Int → sd_M → Option (Int × sd_M)) (v1 : Int) (v2 : Int) (s0 : Int) (M : sd_M) : Option (Int × sd_M) := (f_X10_triesRow s0 M).bind fun r1 => k90 v1 (sd_w (v2 + 1)) r1.2
set_option maxRecDepth 4000 in
theorem t_X10_rows_116 {X : Nat → List sd_V → List sd_E → sd_A → Prop} {d : Nat} (hd : 7 ≤ d) (k90 : Int → Int → sd_M → Option (Int × sd_M)) (k125 : Int → sd_M → Option (Int × sd_M)) (hk90 : ∀ (v1 : Int) (v2 : Int) (M : sd_M) (Rr : Int × sd_M), k90 v1 v2 M = some Rr → sd_B X d sd_q_X10_rows 90 [(0, .inr (.inr (some (331)))), (1, .inl (v1)), (2, .inl (v2))] [] M (some (.inl Rr.1), sd_rp Rr.2, 0, 0)) (hk125 : ∀ (v1 : Int) (M : sd_M) (Rr : Int × sd_M), k125 v1 M = some Rr → sd_B X d sd_q_X10_rows 125 [(0, .inr (.inr (some (331)))), (1, .inl (v1))] [] M (some (.inl Rr.1), sd_rp Rr.2, 0, 0)) (v1 : Int) (v2 : Int) (s0 : Int) (M : sd_M) (Rr : Int × sd_M) (h : f_X10_rows_116 k90 k125 v1 v2 s0 M = some Rr) : sd_B X d sd_q_X10_rows 116 [(0, .inr (.inr (some (331)))), (1, .inl (v1)), (2, .inl (v2))] [.inl (s0), .inr (.inr (some (331)))] M (some (.inl Rr.1), sd_rp Rr.2, 0, 0) := by
  unfold f_X10_rows_116 at h
  obtain ⟨r1, e1, h⟩ := sd_bnd h
  refine sd_b_call [.inr (.inr (some (331))), .inl (s0)] [] rfl rfl sd_i_X10_triesRow rfl rfl (Nat.le_of_ble_eq_true rfl) (sd_rc_v sd_o_331) (m_X10_triesRow (by omega) e1) ?_
  refine sd_b_go 2 (pc2 := 90) (lv2 := [(2, .inl (sd_w (v2 + 1))), (0, .inr (.inr (some (331)))), (1, .inl (v1))]) (st2 := []) rfl ?_
  refine sd_b_wk [(0, .inr (.inr (some (331)))), (1, .inl (v1)), (2, .inl (sd_w (v2 + 1)))] (List.forall_mem_cons.mpr ⟨rfl, (List.forall_mem_cons.mpr ⟨rfl, (List.forall_mem_cons.mpr ⟨rfl, (fun _ h0 => absurd h0 List.not_mem_nil)⟩)⟩)⟩) ?_
  exact hk90 v1 (sd_w (v2 + 1)) r1.2 _ h
def f_X10_rows_90 (k125 : Int → sd_M → Option (Int × sd_M)) : Nat → Int → Int → sd_M → Option (Int × sd_M)
  | 0, _, _, _ => none
  | n + 1, v1, v2, M => (f_X10_waysOf (M 331 32) M).bind fun r1 => if r1.1 ≤ v2 then (k125 v1 r1.2) else ((f_X10_rowOf v2 r1.2).bind fun r3 => if v2 = 0 then (f_X10_rows_116 (f_X10_rows_90 k125 n) k125 v1 v2 1 r3.2) else (f_X10_rows_116 (f_X10_rows_90 k125 n) k125 v1 v2 0 r3.2))
set_option maxRecDepth 4000 in
theorem t_X10_rows_90 {X : Nat → List sd_V → List sd_E → sd_A → Prop} {d : Nat} (hd : 7 ≤ d) (k125 : Int → sd_M → Option (Int × sd_M)) (hk125 : ∀ (v1 : Int) (M : sd_M) (Rr : Int × sd_M), k125 v1 M = some Rr → sd_B X d sd_q_X10_rows 125 [(0, .inr (.inr (some (331)))), (1, .inl (v1))] [] M (some (.inl Rr.1), sd_rp Rr.2, 0, 0)) : ∀ (n : Nat) (v1 : Int) (v2 : Int) (M : sd_M) (Rr : Int × sd_M), f_X10_rows_90 k125 n v1 v2 M = some Rr → sd_B X d sd_q_X10_rows 90 [(0, .inr (.inr (some (331)))), (1, .inl (v1)), (2, .inl (v2))] [] M (some (.inl Rr.1), sd_rp Rr.2, 0, 0) := by
  intro n
  induction n with
  | zero => intro v1 v2 M Rr h; cases h
  | succ n ih =>
    intro v1 v2 M Rr h
    rw [f_X10_rows_90] at h
    refine sd_b_go 2 (pc2 := 92) (lv2 := [(0, .inr (.inr (some (331)))), (1, .inl (v1)), (2, .inl (v2))]) (st2 := [.inr (.inr (some (331))), .inl (v2)]) rfl ?_
    refine sd_b_gi (k := 32) sd_o_331 rfl rfl rfl ?_
    obtain ⟨r1, e1, h⟩ := sd_bnd h
    refine sd_b_call [.inl (M 331 32)] [.inl (v2)] rfl rfl sd_i_X10_waysOf rfl rfl (Nat.le_of_ble_eq_true rfl) rfl (m_X10_waysOf (by omega) e1) ?_
    by_cases c2 : r1.1 ≤ v2
    · rw [if_pos c2] at h
      refine sd_b_ct (c := .ge) (tgt := 125) rfl (decide_eq_true c2) (by decide) ?_
      refine sd_b_wk [(0, .inr (.inr (some (331)))), (1, .inl (v1))] (List.forall_mem_cons.mpr ⟨rfl, (List.forall_mem_cons.mpr ⟨rfl, (fun _ h0 => absurd h0 List.not_mem_nil)⟩)⟩) ?_
      exact hk125 v1 r1.2 _ h
    · rw [if_neg c2] at h
      refine sd_b_cf (c := .ge) rfl (decide_eq_false c2) (by decide) ?_
      refine sd_b_go 2 (pc2 := 103) (lv2 := [(0, .inr (.inr (some (331)))), (1, .inl (v1)), (2, .inl (v2))]) (st2 := [.inl (v2), .inr (.inr (some (331)))]) rfl ?_
      obtain ⟨r3, e3, h⟩ := sd_bnd h
      refine sd_b_call [.inr (.inr (some (331))), .inl (v2)] [] rfl rfl sd_i_X10_rowOf rfl rfl (Nat.le_of_ble_eq_true rfl) (sd_rc_v sd_o_331) (m_X10_rowOf (by omega) e3) ?_
      refine sd_b_go 2 (pc2 := 108) (lv2 := [(0, .inr (.inr (some (331)))), (1, .inl (v1)), (2, .inl (v2))]) (st2 := [.inl (v2), .inr (.inr (some (331)))]) rfl ?_
      by_cases c4 : v2 = 0
      · rw [if_pos c4] at h
        refine sd_b_zf (c := .ne) rfl (decide_eq_false (not_not_intro c4)) (by decide) ?_
        refine sd_b_go 2 (pc2 := 116) (lv2 := [(0, .inr (.inr (some (331)))), (1, .inl (v1)), (2, .inl (v2))]) (st2 := [.inl (1), .inr (.inr (some (331)))]) rfl ?_
        refine sd_b_wk [(0, .inr (.inr (some (331)))), (1, .inl (v1)), (2, .inl (v2))] (List.forall_mem_cons.mpr ⟨rfl, (List.forall_mem_cons.mpr ⟨rfl, (List.forall_mem_cons.mpr ⟨rfl, (fun _ h0 => absurd h0 List.not_mem_nil)⟩)⟩)⟩) ?_
        exact t_X10_rows_116 hd (f_X10_rows_90 k125 n) k125 ih hk125 v1 v2 1 r3.2 _ h
      · rw [if_neg c4] at h
        refine sd_b_zt (c := .ne) (tgt := 115) rfl (decide_eq_true c4) (by decide) ?_
        refine sd_b_go 1 (pc2 := 116) (lv2 := [(0, .inr (.inr (some (331)))), (1, .inl (v1)), (2, .inl (v2))]) (st2 := [.inl (0), .inr (.inr (some (331)))]) rfl ?_
        refine sd_b_wk [(0, .inr (.inr (some (331)))), (1, .inl (v1)), (2, .inl (v2))] (List.forall_mem_cons.mpr ⟨rfl, (List.forall_mem_cons.mpr ⟨rfl, (List.forall_mem_cons.mpr ⟨rfl, (fun _ h0 => absurd h0 List.not_mem_nil)⟩)⟩)⟩) ?_
        exact t_X10_rows_116 hd (f_X10_rows_90 k125 n) k125 ih hk125 v1 v2 0 r3.2 _ h
def f_X10_rows_125 (v1 : Int) (M : sd_M) : Option (Int × sd_M) := if 2 ≤ v1 then (if (M 331 32) ≤ (sd_w (v1 - 2)) then (some ((-1), M)) else (if 0 ≤ (sd_w (v1 - 2)) ∧ (sd_w (v1 - 2)) < 4 then (some (M 349 (sd_w (v1 - 2)).toNat, M)) else none)) else (if v1 = 0 then (some (M 331 33, M)) else (some (M 331 34, M)))
set_option maxRecDepth 4000 in
theorem t_X10_rows_125 {X : Nat → List sd_V → List sd_E → sd_A → Prop} {d : Nat} (hd : 7 ≤ d) (v1 : Int) (M : sd_M) (Rr : Int × sd_M) (h : f_X10_rows_125 v1 M = some Rr) : sd_B X d sd_q_X10_rows 125 [(0, .inr (.inr (some (331)))), (1, .inl (v1))] [] M (some (.inl Rr.1), sd_rp Rr.2, 0, 0) := by
  unfold f_X10_rows_125 at h
  refine sd_b_go 2 (pc2 := 127) (lv2 := [(0, .inr (.inr (some (331)))), (1, .inl (v1))]) (st2 := [.inl (2), .inl (v1)]) rfl ?_
  by_cases c1 : 2 ≤ v1
  · rw [if_pos c1] at h
    refine sd_b_ct (c := .ge) (tgt := 146) rfl (decide_eq_true c1) (by decide) ?_
    refine sd_b_go 4 (pc2 := 150) (lv2 := [(0, .inr (.inr (some (331)))), (1, .inl (v1))]) (st2 := [.inr (.inr (some (331))), .inl (sd_w (v1 - 2))]) rfl ?_
    refine sd_b_gi (k := 32) sd_o_331 rfl rfl rfl ?_
    by_cases c2 : (M 331 32) ≤ (sd_w (v1 - 2))
    · rw [if_pos c2] at h
      refine sd_b_ct (c := .ge) (tgt := 167) rfl (decide_eq_true c2) (by decide) ?_
      refine sd_b_go 1 (pc2 := 168) (lv2 := [(0, .inr (.inr (some (331)))), (1, .inl (v1))]) (st2 := [.inl ((-1))]) rfl ?_
      cases h
      exact sd_b_rt rfl rfl rfl
    · rw [if_neg c2] at h
      refine sd_b_cf (c := .ge) rfl (decide_eq_false c2) (by decide) ?_
      refine sd_b_go 1 (pc2 := 157) (lv2 := [(0, .inr (.inr (some (331)))), (1, .inl (v1))]) (st2 := [.inr (.inr (some (331)))]) rfl ?_
      refine sd_b_gr (k := 31) sd_o_331 rfl rfl rfl ?_
      refine sd_b_go 3 (pc2 := 163) (lv2 := [(0, .inr (.inr (some (331)))), (1, .inl (v1))]) (st2 := [.inl (sd_w (v1 - 2)), .inr (.inr (some (349)))]) rfl ?_
      obtain ⟨g3, h⟩ := sd_if h
      refine sd_b_ai (sd_oa sd_o_331 (by decide) (off := 18) (List.mem_of_getElem? (i := 17) rfl)) g3 rfl ?_
      refine sd_b_go 1 (pc2 := 168) (lv2 := [(0, .inr (.inr (some (331)))), (1, .inl (v1))]) (st2 := [.inl (M 349 (sd_w (v1 - 2)).toNat)]) rfl ?_
      cases h
      exact sd_b_rt rfl rfl rfl
  · rw [if_neg c1] at h
    refine sd_b_cf (c := .ge) rfl (decide_eq_false c1) (by decide) ?_
    refine sd_b_go 1 (pc2 := 131) (lv2 := [(0, .inr (.inr (some (331)))), (1, .inl (v1))]) (st2 := [.inl (v1)]) rfl ?_
    by_cases c4 : v1 = 0
    · rw [if_pos c4] at h
      refine sd_b_zf (c := .ne) rfl (decide_eq_false (not_not_intro c4)) (by decide) ?_
      refine sd_b_go 1 (pc2 := 135) (lv2 := [(0, .inr (.inr (some (331)))), (1, .inl (v1))]) (st2 := [.inr (.inr (some (331)))]) rfl ?_
      refine sd_b_gi (k := 33) sd_o_331 rfl rfl rfl ?_
      refine sd_b_go 1 (pc2 := 145) (lv2 := [(0, .inr (.inr (some (331)))), (1, .inl (v1))]) (st2 := [.inl (M 331 33)]) rfl ?_
      cases h
      exact sd_b_rt rfl rfl rfl
    · rw [if_neg c4] at h
      refine sd_b_zt (c := .ne) (tgt := 141) rfl (decide_eq_true c4) (by decide) ?_
      refine sd_b_go 1 (pc2 := 142) (lv2 := [(0, .inr (.inr (some (331)))), (1, .inl (v1))]) (st2 := [.inr (.inr (some (331)))]) rfl ?_
      refine sd_b_gi (k := 34) sd_o_331 rfl rfl rfl ?_
      cases h
      exact sd_b_rt rfl rfl rfl
def f_X10_rows_84 (v1 : Int) (M : sd_M) : Option (Int × sd_M) := (f_X10_keeps M).bind fun r1 => f_X10_rows_90 (f_X10_rows_125) 4000 v1 0 r1.2
set_option maxRecDepth 4000 in
theorem t_X10_rows_84 {X : Nat → List sd_V → List sd_E → sd_A → Prop} {d : Nat} (hd : 7 ≤ d) (v1 : Int) (M : sd_M) (Rr : Int × sd_M) (h : f_X10_rows_84 v1 M = some Rr) : sd_B X d sd_q_X10_rows 84 [(0, .inr (.inr (some (331)))), (1, .inl (v1))] [] M (some (.inl Rr.1), sd_rp Rr.2, 0, 0) := by
  unfold f_X10_rows_84 at h
  refine sd_b_go 1 (pc2 := 85) (lv2 := [(0, .inr (.inr (some (331)))), (1, .inl (v1))]) (st2 := [.inr (.inr (some (331)))]) rfl ?_
  obtain ⟨r1, e1, h⟩ := sd_bnd h
  refine sd_b_call [.inr (.inr (some (331)))] [] rfl rfl sd_i_X10_keeps rfl rfl (Nat.le_of_ble_eq_true rfl) (sd_rc_v sd_o_331) (m_X10_keeps (by omega) e1) ?_
  refine sd_b_go 2 (pc2 := 90) (lv2 := [(2, .inl (0)), (0, .inr (.inr (some (331)))), (1, .inl (v1))]) (st2 := []) rfl ?_
  refine sd_b_wk [(0, .inr (.inr (some (331)))), (1, .inl (v1)), (2, .inl (0))] (List.forall_mem_cons.mpr ⟨rfl, (List.forall_mem_cons.mpr ⟨rfl, (List.forall_mem_cons.mpr ⟨rfl, (fun _ h0 => absurd h0 List.not_mem_nil)⟩)⟩)⟩) ?_
  exact t_X10_rows_90 hd (f_X10_rows_125) (t_X10_rows_125 hd) 4000 v1 0 r1.2 _ h
def f_X10_rows (p1 : Int) (M : sd_M) : Option (Int × sd_M) := (f_X10_isSlip M).bind fun r1 => if r1.1 = 0 then (some ((-2), r1.2)) else ((f_X10_in p1 0 5 r1.2).bind fun r3 => if r3.1 = 0 then (some ((-2), r3.2)) else (f_X10_rows_29 (f_X10_rows_84) 4000 p1 0 (sd_s r3.2 331 32 0)))
set_option maxRecDepth 4000 in
theorem t_X10_rows {X : Nat → List sd_V → List sd_E → sd_A → Prop} {d : Nat} (hd : 7 ≤ d) (p1 : Int) (M : sd_M) (Rr : Int × sd_M) (h : f_X10_rows p1 M = some Rr) : sd_B X d sd_q_X10_rows 0 [(0, .inr (.inr (some (331)))), (1, .inl (p1))] [] M (some (.inl Rr.1), sd_rp Rr.2, 0, 0) := by
  unfold f_X10_rows at h
  refine sd_b_go 1 (pc2 := 1) (lv2 := [(0, .inr (.inr (some (331)))), (1, .inl (p1))]) (st2 := [.inr (.inr (some (331)))]) rfl ?_
  obtain ⟨r1, e1, h⟩ := sd_bnd h
  refine sd_b_call [.inr (.inr (some (331)))] [] rfl rfl sd_i_X10_isSlip rfl rfl (Nat.le_of_ble_eq_true rfl) (sd_rc_v sd_o_331) (m_X10_isSlip (by omega) e1) ?_
  by_cases c2 : r1.1 = 0
  · rw [if_pos c2] at h
    refine sd_b_zt (c := .eq) (tgt := 19) rfl (decide_eq_true c2) (by decide) ?_
    refine sd_b_go 1 (pc2 := 21) (lv2 := [(0, .inr (.inr (some (331)))), (1, .inl (p1))]) (st2 := [.inl ((-2))]) rfl ?_
    cases h
    exact sd_b_rt rfl rfl rfl
  · rw [if_neg c2] at h
    refine sd_b_zf (c := .eq) rfl (decide_eq_false c2) (by decide) ?_
    refine sd_b_go 4 (pc2 := 13) (lv2 := [(0, .inr (.inr (some (331)))), (1, .inl (p1))]) (st2 := [.inr (.inl (5)), .inr (.inl (0)), .inr (.inl (p1))]) rfl ?_
    obtain ⟨r3, e3, h⟩ := sd_bnd h
    refine sd_b_call [.inr (.inl (p1)), .inr (.inl (0)), .inr (.inl (5))] [] rfl rfl sd_i_X10_in rfl rfl (Nat.le_of_ble_eq_true rfl) rfl (m_X10_in (by omega) e3) ?_
    by_cases c4 : r3.1 = 0
    · rw [if_pos c4] at h
      refine sd_b_zf (c := .ne) rfl (decide_eq_false (not_not_intro c4)) (by decide) ?_
      refine sd_b_go 1 (pc2 := 21) (lv2 := [(0, .inr (.inr (some (331)))), (1, .inl (p1))]) (st2 := [.inl ((-2))]) rfl ?_
      cases h
      exact sd_b_rt rfl rfl rfl
    · rw [if_neg c4] at h
      refine sd_b_zt (c := .ne) (tgt := 22) rfl (decide_eq_true c4) (by decide) ?_
      refine sd_b_go 2 (pc2 := 24) (lv2 := [(0, .inr (.inr (some (331)))), (1, .inl (p1))]) (st2 := [.inl (0), .inr (.inr (some (331)))]) rfl ?_
      refine sd_b_pi (k := 32) sd_o_331 rfl rfl rfl rfl rfl ?_
      refine sd_b_go 2 (pc2 := 29) (lv2 := [(2, .inl (0)), (0, .inr (.inr (some (331)))), (1, .inl (p1))]) (st2 := []) rfl ?_
      refine sd_b_wk [(0, .inr (.inr (some (331)))), (1, .inl (p1)), (2, .inl (0))] (List.forall_mem_cons.mpr ⟨rfl, (List.forall_mem_cons.mpr ⟨rfl, (List.forall_mem_cons.mpr ⟨rfl, (fun _ h0 => absurd h0 List.not_mem_nil)⟩)⟩)⟩) ?_
      exact t_X10_rows_29 hd (f_X10_rows_84) (t_X10_rows_84 hd) 4000 p1 0 (sd_s r3.2 331 32 0) _ h
theorem m_X10_rows {X : Nat → List sd_V → List sd_E → sd_A → Prop} {d : Nat} (hd : 8 ≤ d) {p1 : Int} {M : sd_M} {Rr : Int × sd_M} (h : f_X10_rows p1 M = some Rr) : sd_Cal X d 224 [.inr (.inr (some (331))), .inl (p1)] (sd_rp M) (some (.inl Rr.1), sd_rp Rr.2, 0, 0) := by
  obtain ⟨d, rfl⟩ : ∃ d2, d = d2 + 1 := ⟨d - 1, by omega⟩
  exact sd_cal_of sd_i_X10_rows (Nat.le_of_ble_eq_true rfl) (t_X10_rows (by omega) p1 M Rr h)
-- X10_ahead
def sd_q_X10_ahead : sd_MI := (yX10_ahead, cX10_ahead, 4, (some .int), 10, 2, sd_t_X10_ahead)
set_option maxRecDepth 4000 in
theorem sd_i_X10_ahead : sd_mL[225]? = some sd_q_X10_ahead := rfl
def f_X10_ahead_87 (s0 : Int) (M : sd_M) : Option (Int × sd_M) := (f_X10_laysBack M).bind fun r1 => some (s0, r1.2)
set_option maxRecDepth 4000 in
theorem t_X10_ahead_87 {X : Nat → List sd_V → List sd_E → sd_A → Prop} {d : Nat} (hd : 8 ≤ d) (s0 : Int) (M : sd_M) (Rr : Int × sd_M) (h : f_X10_ahead_87 s0 M = some Rr) : sd_B X d sd_q_X10_ahead 87 [(0, .inr (.inr (some (331))))] [.inl (s0)] M (some (.inl Rr.1), sd_rp Rr.2, 0, 0) := by
  unfold f_X10_ahead_87 at h
  refine sd_b_go 2 (pc2 := 89) (lv2 := [(3, .inl (s0)), (0, .inr (.inr (some (331))))]) (st2 := [.inr (.inr (some (331)))]) rfl ?_
  obtain ⟨r1, e1, h⟩ := sd_bnd h
  refine sd_b_call [.inr (.inr (some (331)))] [] rfl rfl sd_i_X10_laysBack rfl rfl (Nat.le_of_ble_eq_true rfl) (sd_rc_v sd_o_331) (m_X10_laysBack (by omega) e1) ?_
  refine sd_b_go 1 (pc2 := 93) (lv2 := [(3, .inl (s0)), (0, .inr (.inr (some (331))))]) (st2 := [.inl (s0)]) rfl ?_
  cases h
  exact sd_b_rt rfl rfl rfl
def f_X10_ahead (p1 : Int) (p2 : Int) (M : sd_M) : Option (Int × sd_M) := (f_X10_isSlip M).bind fun r1 => if r1.1 = 0 then (some ((-1), r1.2)) else ((f_X10_in p1 0 60 r1.2).bind fun r3 => if r3.1 = 0 then (some ((-1), r3.2)) else ((f_X10_in p2 0 3 r3.2).bind fun r5 => if r5.1 = 0 then (some ((-1), r5.2)) else ((f_X10_keeps r5.2).bind fun r7 => (f_X10_passesAll p1 r7.2).bind fun r8 => if p2 = 0 then ((f_X10_placed r8.2).bind fun r13 => f_X10_ahead_87 r13.1 r13.2) else (if p2 = 1 then (f_X10_ahead_87 (r8.2 341 60) r8.2) else (if p2 = 2 then ((f_X10_shortNow r8.2).bind fun r12 => f_X10_ahead_87 r12.1 r12.2) else (f_X10_ahead_87 (r8.2 341 61) r8.2))))))
set_option maxRecDepth 4000 in
theorem t_X10_ahead {X : Nat → List sd_V → List sd_E → sd_A → Prop} {d : Nat} (hd : 8 ≤ d) (p1 : Int) (p2 : Int) (M : sd_M) (Rr : Int × sd_M) (h : f_X10_ahead p1 p2 M = some Rr) : sd_B X d sd_q_X10_ahead 0 [(0, .inr (.inr (some (331)))), (1, .inl (p1)), (2, .inl (p2))] [] M (some (.inl Rr.1), sd_rp Rr.2, 0, 0) := by
  unfold f_X10_ahead at h
  refine sd_b_go 1 (pc2 := 1) (lv2 := [(0, .inr (.inr (some (331)))), (1, .inl (p1)), (2, .inl (p2))]) (st2 := [.inr (.inr (some (331)))]) rfl ?_
  obtain ⟨r1, e1, h⟩ := sd_bnd h
  refine sd_b_call [.inr (.inr (some (331)))] [] rfl rfl sd_i_X10_isSlip rfl rfl (Nat.le_of_ble_eq_true rfl) (sd_rc_v sd_o_331) (m_X10_isSlip (by omega) e1) ?_
  by_cases c2 : r1.1 = 0
  · rw [if_pos c2] at h
    refine sd_b_zt (c := .eq) (tgt := 31) rfl (decide_eq_true c2) (by decide) ?_
    refine sd_b_go 1 (pc2 := 32) (lv2 := [(0, .inr (.inr (some (331)))), (1, .inl (p1)), (2, .inl (p2))]) (st2 := [.inl ((-1))]) rfl ?_
    cases h
    exact sd_b_rt rfl rfl rfl
  · rw [if_neg c2] at h
    refine sd_b_zf (c := .eq) rfl (decide_eq_false c2) (by decide) ?_
    refine sd_b_go 4 (pc2 := 13) (lv2 := [(0, .inr (.inr (some (331)))), (1, .inl (p1)), (2, .inl (p2))]) (st2 := [.inr (.inl (60)), .inr (.inl (0)), .inr (.inl (p1))]) rfl ?_
    obtain ⟨r3, e3, h⟩ := sd_bnd h
    refine sd_b_call [.inr (.inl (p1)), .inr (.inl (0)), .inr (.inl (60))] [] rfl rfl sd_i_X10_in rfl rfl (Nat.le_of_ble_eq_true rfl) rfl (m_X10_in (by omega) e3) ?_
    by_cases c4 : r3.1 = 0
    · rw [if_pos c4] at h
      refine sd_b_zt (c := .eq) (tgt := 31) rfl (decide_eq_true c4) (by decide) ?_
      refine sd_b_go 1 (pc2 := 32) (lv2 := [(0, .inr (.inr (some (331)))), (1, .inl (p1)), (2, .inl (p2))]) (st2 := [.inl ((-1))]) rfl ?_
      cases h
      exact sd_b_rt rfl rfl rfl
    · rw [if_neg c4] at h
      refine sd_b_zf (c := .eq) rfl (decide_eq_false c4) (by decide) ?_
      refine sd_b_go 4 (pc2 := 25) (lv2 := [(0, .inr (.inr (some (331)))), (1, .inl (p1)), (2, .inl (p2))]) (st2 := [.inr (.inl (3)), .inr (.inl (0)), .inr (.inl (p2))]) rfl ?_
      obtain ⟨r5, e5, h⟩ := sd_bnd h
      refine sd_b_call [.inr (.inl (p2)), .inr (.inl (0)), .inr (.inl (3))] [] rfl rfl sd_i_X10_in rfl rfl (Nat.le_of_ble_eq_true rfl) rfl (m_X10_in (by omega) e5) ?_
      by_cases c6 : r5.1 = 0
      · rw [if_pos c6] at h
        refine sd_b_zf (c := .ne) rfl (decide_eq_false (not_not_intro c6)) (by decide) ?_
        refine sd_b_go 1 (pc2 := 32) (lv2 := [(0, .inr (.inr (some (331)))), (1, .inl (p1)), (2, .inl (p2))]) (st2 := [.inl ((-1))]) rfl ?_
        cases h
        exact sd_b_rt rfl rfl rfl
      · rw [if_neg c6] at h
        refine sd_b_zt (c := .ne) (tgt := 33) rfl (decide_eq_true c6) (by decide) ?_
        refine sd_b_go 1 (pc2 := 34) (lv2 := [(0, .inr (.inr (some (331)))), (1, .inl (p1)), (2, .inl (p2))]) (st2 := [.inr (.inr (some (331)))]) rfl ?_
        obtain ⟨r7, e7, h⟩ := sd_bnd h
        refine sd_b_call [.inr (.inr (some (331)))] [] rfl rfl sd_i_X10_keeps rfl rfl (Nat.le_of_ble_eq_true rfl) (sd_rc_v sd_o_331) (m_X10_keeps (by omega) e7) ?_
        refine sd_b_go 2 (pc2 := 39) (lv2 := [(0, .inr (.inr (some (331)))), (1, .inl (p1)), (2, .inl (p2))]) (st2 := [.inl (p1), .inr (.inr (some (331)))]) rfl ?_
        obtain ⟨r8, e8, h⟩ := sd_bnd h
        refine sd_b_call [.inr (.inr (some (331))), .inl (p1)] [] rfl rfl sd_i_X10_passesAll rfl rfl (Nat.le_of_ble_eq_true rfl) (sd_rc_v sd_o_331) (m_X10_passesAll (by omega) e8) ?_
        refine sd_b_go 1 (pc2 := 43) (lv2 := [(0, .inr (.inr (some (331)))), (1, .inl (p1)), (2, .inl (p2))]) (st2 := [.inl (p2)]) rfl ?_
        by_cases c9 : p2 = 0
        · rw [if_pos c9] at h
          refine sd_b_zf (c := .ne) rfl (decide_eq_false (not_not_intro c9)) (by decide) ?_
          refine sd_b_go 1 (pc2 := 47) (lv2 := [(0, .inr (.inr (some (331)))), (1, .inl (p1)), (2, .inl (p2))]) (st2 := [.inr (.inr (some (331)))]) rfl ?_
          obtain ⟨r13, e13, h⟩ := sd_bnd h
          refine sd_b_call [.inr (.inr (some (331)))] [] rfl rfl sd_i_X10_placed rfl rfl (Nat.le_of_ble_eq_true rfl) (sd_rc_v sd_o_331) (m_X10_placed (by omega) e13) ?_
          refine sd_b_go 1 (pc2 := 87) (lv2 := [(0, .inr (.inr (some (331)))), (1, .inl (p1)), (2, .inl (p2))]) (st2 := [.inl (r13.1)]) rfl ?_
          refine sd_b_wk [(0, .inr (.inr (some (331))))] (List.forall_mem_cons.mpr ⟨rfl, (fun _ h0 => absurd h0 List.not_mem_nil)⟩) ?_
          exact t_X10_ahead_87 hd r13.1 r13.2 _ h
        · rw [if_neg c9] at h
          refine sd_b_zt (c := .ne) (tgt := 53) rfl (decide_eq_true c9) (by decide) ?_
          refine sd_b_go 2 (pc2 := 55) (lv2 := [(0, .inr (.inr (some (331)))), (1, .inl (p1)), (2, .inl (p2))]) (st2 := [.inl (1), .inl (p2)]) rfl ?_
          by_cases c10 : p2 = 1
          · rw [if_pos c10] at h
            refine sd_b_cf (c := .ne) rfl (decide_eq_false (not_not_intro c10)) (by decide) ?_
            refine sd_b_go 1 (pc2 := 59) (lv2 := [(0, .inr (.inr (some (331)))), (1, .inl (p1)), (2, .inl (p2))]) (st2 := [.inr (.inr (some (331)))]) rfl ?_
            refine sd_b_gr (k := 20) sd_o_331 rfl rfl rfl ?_
            refine sd_b_go 1 (pc2 := 64) (lv2 := [(0, .inr (.inr (some (331)))), (1, .inl (p1)), (2, .inl (p2))]) (st2 := [.inl (60), .inr (.inr (some (341)))]) rfl ?_
            refine sd_b_ai (i := 60) (sd_oa sd_o_331 (by decide) (off := 10) (List.mem_of_getElem? (i := 9) rfl)) (by decide) rfl ?_
            refine sd_b_go 1 (pc2 := 87) (lv2 := [(0, .inr (.inr (some (331)))), (1, .inl (p1)), (2, .inl (p2))]) (st2 := [.inl (r8.2 341 60)]) rfl ?_
            refine sd_b_wk [(0, .inr (.inr (some (331))))] (List.forall_mem_cons.mpr ⟨rfl, (fun _ h0 => absurd h0 List.not_mem_nil)⟩) ?_
            exact t_X10_ahead_87 hd (r8.2 341 60) r8.2 _ h
          · rw [if_neg c10] at h
            refine sd_b_ct (c := .ne) (tgt := 68) rfl (decide_eq_true c10) (by decide) ?_
            refine sd_b_go 2 (pc2 := 70) (lv2 := [(0, .inr (.inr (some (331)))), (1, .inl (p1)), (2, .inl (p2))]) (st2 := [.inl (2), .inl (p2)]) rfl ?_
            by_cases c11 : p2 = 2
            · rw [if_pos c11] at h
              refine sd_b_cf (c := .ne) rfl (decide_eq_false (not_not_intro c11)) (by decide) ?_
              refine sd_b_go 1 (pc2 := 74) (lv2 := [(0, .inr (.inr (some (331)))), (1, .inl (p1)), (2, .inl (p2))]) (st2 := [.inr (.inr (some (331)))]) rfl ?_
              obtain ⟨r12, e12, h⟩ := sd_bnd h
              refine sd_b_call [.inr (.inr (some (331)))] [] rfl rfl sd_i_X10_shortNow rfl rfl (Nat.le_of_ble_eq_true rfl) (sd_rc_v sd_o_331) (m_X10_shortNow (by omega) e12) ?_
              refine sd_b_go 1 (pc2 := 87) (lv2 := [(0, .inr (.inr (some (331)))), (1, .inl (p1)), (2, .inl (p2))]) (st2 := [.inl (r12.1)]) rfl ?_
              refine sd_b_wk [(0, .inr (.inr (some (331))))] (List.forall_mem_cons.mpr ⟨rfl, (fun _ h0 => absurd h0 List.not_mem_nil)⟩) ?_
              exact t_X10_ahead_87 hd r12.1 r12.2 _ h
            · rw [if_neg c11] at h
              refine sd_b_ct (c := .ne) (tgt := 80) rfl (decide_eq_true c11) (by decide) ?_
              refine sd_b_go 1 (pc2 := 81) (lv2 := [(0, .inr (.inr (some (331)))), (1, .inl (p1)), (2, .inl (p2))]) (st2 := [.inr (.inr (some (331)))]) rfl ?_
              refine sd_b_gr (k := 20) sd_o_331 rfl rfl rfl ?_
              refine sd_b_go 1 (pc2 := 86) (lv2 := [(0, .inr (.inr (some (331)))), (1, .inl (p1)), (2, .inl (p2))]) (st2 := [.inl (61), .inr (.inr (some (341)))]) rfl ?_
              refine sd_b_ai (i := 61) (sd_oa sd_o_331 (by decide) (off := 10) (List.mem_of_getElem? (i := 9) rfl)) (by decide) rfl ?_
              refine sd_b_wk [(0, .inr (.inr (some (331))))] (List.forall_mem_cons.mpr ⟨rfl, (fun _ h0 => absurd h0 List.not_mem_nil)⟩) ?_
              exact t_X10_ahead_87 hd (r8.2 341 61) r8.2 _ h
theorem m_X10_ahead {X : Nat → List sd_V → List sd_E → sd_A → Prop} {d : Nat} (hd : 9 ≤ d) {p1 : Int} {p2 : Int} {M : sd_M} {Rr : Int × sd_M} (h : f_X10_ahead p1 p2 M = some Rr) : sd_Cal X d 225 [.inr (.inr (some (331))), .inl (p1), .inl (p2)] (sd_rp M) (some (.inl Rr.1), sd_rp Rr.2, 0, 0) := by
  obtain ⟨d, rfl⟩ : ∃ d2, d = d2 + 1 := ⟨d - 1, by omega⟩
  exact sd_cal_of sd_i_X10_ahead (Nat.le_of_ble_eq_true rfl) (t_X10_ahead (by omega) p1 p2 M Rr h)
-- X10_full
def sd_q_X10_full : sd_MI := (yX10_full, cX10_full, 3, (some .int), 10, 0, sd_t_X10_full)
set_option maxRecDepth 4000 in
theorem sd_i_X10_full : sd_mL[226]? = some sd_q_X10_full := rfl
def f_X10_full_50 (k18 : Int → Int → sd_M → Option (Int × sd_M)) (k56 : Int → sd_M → Option (Int × sd_M)) (v1 : Int) (v2 : Int) (M : sd_M) : Option (Int × sd_M) := k18 v1 (sd_w (v2 + 1)) M
set_option maxRecDepth 4000 in
theorem t_X10_full_50 {X : Nat → List sd_V → List sd_E → sd_A → Prop} {d : Nat} (hd : 7 ≤ d) (k18 : Int → Int → sd_M → Option (Int × sd_M)) (k56 : Int → sd_M → Option (Int × sd_M)) (hk18 : ∀ (v1 : Int) (v2 : Int) (M : sd_M) (Rr : Int × sd_M), k18 v1 v2 M = some Rr → sd_B X d sd_q_X10_full 18 [(0, .inr (.inr (some (331)))), (1, .inl (v1)), (2, .inl (v2))] [] M (some (.inl Rr.1), sd_rp Rr.2, 0, 0)) (hk56 : ∀ (v1 : Int) (M : sd_M) (Rr : Int × sd_M), k56 v1 M = some Rr → sd_B X d sd_q_X10_full 56 [(0, .inr (.inr (some (331)))), (1, .inl (v1))] [] M (some (.inl Rr.1), sd_rp Rr.2, 0, 0)) (v1 : Int) (v2 : Int) (M : sd_M) (Rr : Int × sd_M) (h : f_X10_full_50 k18 k56 v1 v2 M = some Rr) : sd_B X d sd_q_X10_full 50 [(0, .inr (.inr (some (331)))), (1, .inl (v1)), (2, .inl (v2))] [] M (some (.inl Rr.1), sd_rp Rr.2, 0, 0) := by
  unfold f_X10_full_50 at h
  refine sd_b_go 2 (pc2 := 18) (lv2 := [(2, .inl (sd_w (v2 + 1))), (0, .inr (.inr (some (331)))), (1, .inl (v1))]) (st2 := []) rfl ?_
  refine sd_b_wk [(0, .inr (.inr (some (331)))), (1, .inl (v1)), (2, .inl (sd_w (v2 + 1)))] (List.forall_mem_cons.mpr ⟨rfl, (List.forall_mem_cons.mpr ⟨rfl, (List.forall_mem_cons.mpr ⟨rfl, (fun _ h0 => absurd h0 List.not_mem_nil)⟩)⟩)⟩) ?_
  exact hk18 v1 (sd_w (v2 + 1)) M _ h
def f_X10_full_18 (k56 : Int → sd_M → Option (Int × sd_M)) : Nat → Int → Int → sd_M → Option (Int × sd_M)
  | 0, _, _, _ => none
  | n + 1, v1, v2, M => if 60 ≤ v2 then (k56 v1 M) else (if 0 ≤ v1 then (k56 v1 M) else ((f_X10_passes M).bind fun r3 => (f_X10_shortNow r3.2).bind fun r4 => if r4.1 = 0 then (f_X10_full_50 (f_X10_full_18 k56 n) k56 (sd_w ((r4.2 341 58) - 1)) v2 r4.2) else (f_X10_full_50 (f_X10_full_18 k56 n) k56 v1 v2 r4.2)))
set_option maxRecDepth 4000 in
theorem t_X10_full_18 {X : Nat → List sd_V → List sd_E → sd_A → Prop} {d : Nat} (hd : 7 ≤ d) (k56 : Int → sd_M → Option (Int × sd_M)) (hk56 : ∀ (v1 : Int) (M : sd_M) (Rr : Int × sd_M), k56 v1 M = some Rr → sd_B X d sd_q_X10_full 56 [(0, .inr (.inr (some (331)))), (1, .inl (v1))] [] M (some (.inl Rr.1), sd_rp Rr.2, 0, 0)) : ∀ (n : Nat) (v1 : Int) (v2 : Int) (M : sd_M) (Rr : Int × sd_M), f_X10_full_18 k56 n v1 v2 M = some Rr → sd_B X d sd_q_X10_full 18 [(0, .inr (.inr (some (331)))), (1, .inl (v1)), (2, .inl (v2))] [] M (some (.inl Rr.1), sd_rp Rr.2, 0, 0) := by
  intro n
  induction n with
  | zero => intro v1 v2 M Rr h; cases h
  | succ n ih =>
    intro v1 v2 M Rr h
    rw [f_X10_full_18] at h
    refine sd_b_go 2 (pc2 := 21) (lv2 := [(0, .inr (.inr (some (331)))), (1, .inl (v1)), (2, .inl (v2))]) (st2 := [.inl (60), .inl (v2)]) rfl ?_
    by_cases c1 : 60 ≤ v2
    · rw [if_pos c1] at h
      refine sd_b_ct (c := .ge) (tgt := 56) rfl (decide_eq_true c1) (by decide) ?_
      refine sd_b_wk [(0, .inr (.inr (some (331)))), (1, .inl (v1))] (List.forall_mem_cons.mpr ⟨rfl, (List.forall_mem_cons.mpr ⟨rfl, (fun _ h0 => absurd h0 List.not_mem_nil)⟩)⟩) ?_
      exact hk56 v1 M _ h
    · rw [if_neg c1] at h
      refine sd_b_cf (c := .ge) rfl (decide_eq_false c1) (by decide) ?_
      refine sd_b_go 1 (pc2 := 25) (lv2 := [(0, .inr (.inr (some (331)))), (1, .inl (v1)), (2, .inl (v2))]) (st2 := [.inl (v1)]) rfl ?_
      by_cases c2 : 0 ≤ v1
      · rw [if_pos c2] at h
        refine sd_b_zt (c := .ge) (tgt := 56) rfl (decide_eq_true c2) (by decide) ?_
        refine sd_b_wk [(0, .inr (.inr (some (331)))), (1, .inl (v1))] (List.forall_mem_cons.mpr ⟨rfl, (List.forall_mem_cons.mpr ⟨rfl, (fun _ h0 => absurd h0 List.not_mem_nil)⟩)⟩) ?_
        exact hk56 v1 M _ h
      · rw [if_neg c2] at h
        refine sd_b_zf (c := .ge) rfl (decide_eq_false c2) (by decide) ?_
        refine sd_b_go 1 (pc2 := 29) (lv2 := [(0, .inr (.inr (some (331)))), (1, .inl (v1)), (2, .inl (v2))]) (st2 := [.inr (.inr (some (331)))]) rfl ?_
        obtain ⟨r3, e3, h⟩ := sd_bnd h
        refine sd_b_call [.inr (.inr (some (331)))] [] rfl rfl sd_i_X10_passes rfl rfl (Nat.le_of_ble_eq_true rfl) (sd_rc_v sd_o_331) (m_X10_passes (by omega) e3) ?_
        refine sd_b_go 2 (pc2 := 34) (lv2 := [(0, .inr (.inr (some (331)))), (1, .inl (v1)), (2, .inl (v2))]) (st2 := [.inr (.inr (some (331)))]) rfl ?_
        obtain ⟨r4, e4, h⟩ := sd_bnd h
        refine sd_b_call [.inr (.inr (some (331)))] [] rfl rfl sd_i_X10_shortNow rfl rfl (Nat.le_of_ble_eq_true rfl) (sd_rc_v sd_o_331) (m_X10_shortNow (by omega) e4) ?_
        by_cases c5 : r4.1 = 0
        · rw [if_pos c5] at h
          refine sd_b_zf (c := .ne) rfl (decide_eq_false (not_not_intro c5)) (by decide) ?_
          refine sd_b_go 1 (pc2 := 41) (lv2 := [(0, .inr (.inr (some (331)))), (1, .inl (v1)), (2, .inl (v2))]) (st2 := [.inr (.inr (some (331)))]) rfl ?_
          refine sd_b_gr (k := 20) sd_o_331 rfl rfl rfl ?_
          refine sd_b_go 1 (pc2 := 46) (lv2 := [(0, .inr (.inr (some (331)))), (1, .inl (v1)), (2, .inl (v2))]) (st2 := [.inl (58), .inr (.inr (some (341)))]) rfl ?_
          refine sd_b_ai (i := 58) (sd_oa sd_o_331 (by decide) (off := 10) (List.mem_of_getElem? (i := 9) rfl)) (by decide) rfl ?_
          refine sd_b_go 3 (pc2 := 50) (lv2 := [(1, .inl (sd_w ((r4.2 341 58) - 1))), (0, .inr (.inr (some (331)))), (2, .inl (v2))]) (st2 := []) rfl ?_
          refine sd_b_wk [(0, .inr (.inr (some (331)))), (1, .inl (sd_w ((r4.2 341 58) - 1))), (2, .inl (v2))] (List.forall_mem_cons.mpr ⟨rfl, (List.forall_mem_cons.mpr ⟨rfl, (List.forall_mem_cons.mpr ⟨rfl, (fun _ h0 => absurd h0 List.not_mem_nil)⟩)⟩)⟩) ?_
          exact t_X10_full_50 hd (f_X10_full_18 k56 n) k56 ih hk56 (sd_w ((r4.2 341 58) - 1)) v2 r4.2 _ h
        · rw [if_neg c5] at h
          refine sd_b_zt (c := .ne) (tgt := 50) rfl (decide_eq_true c5) (by decide) ?_
          refine sd_b_wk [(0, .inr (.inr (some (331)))), (1, .inl (v1)), (2, .inl (v2))] (List.forall_mem_cons.mpr ⟨rfl, (List.forall_mem_cons.mpr ⟨rfl, (List.forall_mem_cons.mpr ⟨rfl, (fun _ h0 => absurd h0 List.not_mem_nil)⟩)⟩)⟩) ?_
          exact t_X10_full_50 hd (f_X10_full_18 k56 n) k56 ih hk56 v1 v2 r4.2 _ h
def f_X10_full_56 (v1 : Int) (M : sd_M) : Option (Int × sd_M) := (f_X10_laysBack M).bind fun r1 => some (v1, r1.2)
set_option maxRecDepth 4000 in
theorem t_X10_full_56 {X : Nat → List sd_V → List sd_E → sd_A → Prop} {d : Nat} (hd : 7 ≤ d) (v1 : Int) (M : sd_M) (Rr : Int × sd_M) (h : f_X10_full_56 v1 M = some Rr) : sd_B X d sd_q_X10_full 56 [(0, .inr (.inr (some (331)))), (1, .inl (v1))] [] M (some (.inl Rr.1), sd_rp Rr.2, 0, 0) := by
  unfold f_X10_full_56 at h
  refine sd_b_go 1 (pc2 := 57) (lv2 := [(0, .inr (.inr (some (331)))), (1, .inl (v1))]) (st2 := [.inr (.inr (some (331)))]) rfl ?_
  obtain ⟨r1, e1, h⟩ := sd_bnd h
  refine sd_b_call [.inr (.inr (some (331)))] [] rfl rfl sd_i_X10_laysBack rfl rfl (Nat.le_of_ble_eq_true rfl) (sd_rc_v sd_o_331) (m_X10_laysBack (by omega) e1) ?_
  refine sd_b_go 1 (pc2 := 61) (lv2 := [(0, .inr (.inr (some (331)))), (1, .inl (v1))]) (st2 := [.inl (v1)]) rfl ?_
  cases h
  exact sd_b_rt rfl rfl rfl
def f_X10_full (M : sd_M) : Option (Int × sd_M) := (f_X10_isSlip M).bind fun r1 => if r1.1 = 0 then (some ((-1), r1.2)) else ((f_X10_keeps r1.2).bind fun r3 => f_X10_full_18 (f_X10_full_56) 4000 ((-2)) 0 r3.2)
set_option maxRecDepth 4000 in
theorem t_X10_full {X : Nat → List sd_V → List sd_E → sd_A → Prop} {d : Nat} (hd : 7 ≤ d) (M : sd_M) (Rr : Int × sd_M) (h : f_X10_full M = some Rr) : sd_B X d sd_q_X10_full 0 [(0, .inr (.inr (some (331))))] [] M (some (.inl Rr.1), sd_rp Rr.2, 0, 0) := by
  unfold f_X10_full at h
  refine sd_b_go 1 (pc2 := 1) (lv2 := [(0, .inr (.inr (some (331))))]) (st2 := [.inr (.inr (some (331)))]) rfl ?_
  obtain ⟨r1, e1, h⟩ := sd_bnd h
  refine sd_b_call [.inr (.inr (some (331)))] [] rfl rfl sd_i_X10_isSlip rfl rfl (Nat.le_of_ble_eq_true rfl) (sd_rc_v sd_o_331) (m_X10_isSlip (by omega) e1) ?_
  by_cases c2 : r1.1 = 0
  · rw [if_pos c2] at h
    refine sd_b_zf (c := .ne) rfl (decide_eq_false (not_not_intro c2)) (by decide) ?_
    refine sd_b_go 1 (pc2 := 8) (lv2 := [(0, .inr (.inr (some (331))))]) (st2 := [.inl ((-1))]) rfl ?_
    cases h
    exact sd_b_rt rfl rfl rfl
  · rw [if_neg c2] at h
    refine sd_b_zt (c := .ne) (tgt := 9) rfl (decide_eq_true c2) (by decide) ?_
    refine sd_b_go 3 (pc2 := 13) (lv2 := [(1, .inl ((-2))), (0, .inr (.inr (some (331))))]) (st2 := [.inr (.inr (some (331)))]) rfl ?_
    obtain ⟨r3, e3, h⟩ := sd_bnd h
    refine sd_b_call [.inr (.inr (some (331)))] [] rfl rfl sd_i_X10_keeps rfl rfl (Nat.le_of_ble_eq_true rfl) (sd_rc_v sd_o_331) (m_X10_keeps (by omega) e3) ?_
    refine sd_b_go 2 (pc2 := 18) (lv2 := [(2, .inl (0)), (1, .inl ((-2))), (0, .inr (.inr (some (331))))]) (st2 := []) rfl ?_
    refine sd_b_wk [(0, .inr (.inr (some (331)))), (1, .inl ((-2))), (2, .inl (0))] (List.forall_mem_cons.mpr ⟨rfl, (List.forall_mem_cons.mpr ⟨rfl, (List.forall_mem_cons.mpr ⟨rfl, (fun _ h0 => absurd h0 List.not_mem_nil)⟩)⟩)⟩) ?_
    exact t_X10_full_18 hd (f_X10_full_56) (t_X10_full_56 hd) 4000 ((-2)) 0 r3.2 _ h
theorem m_X10_full {X : Nat → List sd_V → List sd_E → sd_A → Prop} {d : Nat} (hd : 8 ≤ d) {M : sd_M} {Rr : Int × sd_M} (h : f_X10_full M = some Rr) : sd_Cal X d 226 [.inr (.inr (some (331)))] (sd_rp M) (some (.inl Rr.1), sd_rp Rr.2, 0, 0) := by
  obtain ⟨d, rfl⟩ : ∃ d2, d = d2 + 1 := ⟨d - 1, by omega⟩
  exact sd_cal_of sd_i_X10_full (Nat.le_of_ble_eq_true rfl) (t_X10_full (by omega) M Rr h)
-- X10_taken
def sd_q_X10_taken : sd_MI := (yX10_taken, cX10_taken, 4, (some .int), 10, 1, sd_t_X10_taken)
set_option maxRecDepth 4000 in
theorem sd_i_X10_taken : sd_mL[227]? = some sd_q_X10_taken := rfl
def f_X10_taken_47 (k19 : Int → Int → Int → sd_M → Option (Int × sd_M)) (k53 : Int → sd_M → Option (Int × sd_M)) (v1 : Int) (v2 : Int) (v3 : Int) (M : sd_M) : Option (Int × sd_M) := k19 v1 v2 (sd_w (v3 + 1)) M
set_option maxRecDepth 4000 in
theorem t_X10_taken_47 {X : Nat → List sd_V → List sd_E → sd_A → Prop} {d : Nat} (hd : 7 ≤ d) (k19 : Int → Int → Int → sd_M → Option (Int × sd_M)) (k53 : Int → sd_M → Option (Int × sd_M)) (hk19 : ∀ (v1 : Int) (v2 : Int) (v3 : Int) (M : sd_M) (Rr : Int × sd_M), k19 v1 v2 v3 M = some Rr → sd_B X d sd_q_X10_taken 19 [(0, .inr (.inr (some (331)))), (1, .inl (v1)), (2, .inl (v2)), (3, .inl (v3))] [] M (some (.inl Rr.1), sd_rp Rr.2, 0, 0)) (hk53 : ∀ (v2 : Int) (M : sd_M) (Rr : Int × sd_M), k53 v2 M = some Rr → sd_B X d sd_q_X10_taken 53 [(0, .inr (.inr (some (331)))), (2, .inl (v2))] [] M (some (.inl Rr.1), sd_rp Rr.2, 0, 0)) (v1 : Int) (v2 : Int) (v3 : Int) (M : sd_M) (Rr : Int × sd_M) (h : f_X10_taken_47 k19 k53 v1 v2 v3 M = some Rr) : sd_B X d sd_q_X10_taken 47 [(0, .inr (.inr (some (331)))), (1, .inl (v1)), (2, .inl (v2)), (3, .inl (v3))] [] M (some (.inl Rr.1), sd_rp Rr.2, 0, 0) := by
  unfold f_X10_taken_47 at h
  refine sd_b_go 2 (pc2 := 19) (lv2 := [(3, .inl (sd_w (v3 + 1))), (0, .inr (.inr (some (331)))), (1, .inl (v1)), (2, .inl (v2))]) (st2 := []) rfl ?_
  refine sd_b_wk [(0, .inr (.inr (some (331)))), (1, .inl (v1)), (2, .inl (v2)), (3, .inl (sd_w (v3 + 1)))] (List.forall_mem_cons.mpr ⟨rfl, (List.forall_mem_cons.mpr ⟨rfl, (List.forall_mem_cons.mpr ⟨rfl, (List.forall_mem_cons.mpr ⟨rfl, (fun _ h0 => absurd h0 List.not_mem_nil)⟩)⟩)⟩)⟩) ?_
  exact hk19 v1 v2 (sd_w (v3 + 1)) M _ h
def f_X10_taken_19 (k53 : Int → sd_M → Option (Int × sd_M)) : Nat → Int → Int → Int → sd_M → Option (Int × sd_M)
  | 0, _, _, _, _ => none
  | n + 1, v1, v2, v3, M => if 60 ≤ v3 then (k53 v2 M) else (if 0 ≤ v2 then (k53 v2 M) else ((f_X10_passes M).bind fun r3 => if r3.1 = v1 then (f_X10_taken_47 (f_X10_taken_19 k53 n) k53 v1 (sd_w ((r3.2 341 58) - 1)) v3 r3.2) else (f_X10_taken_47 (f_X10_taken_19 k53 n) k53 v1 v2 v3 r3.2)))
set_option maxRecDepth 4000 in
theorem t_X10_taken_19 {X : Nat → List sd_V → List sd_E → sd_A → Prop} {d : Nat} (hd : 7 ≤ d) (k53 : Int → sd_M → Option (Int × sd_M)) (hk53 : ∀ (v2 : Int) (M : sd_M) (Rr : Int × sd_M), k53 v2 M = some Rr → sd_B X d sd_q_X10_taken 53 [(0, .inr (.inr (some (331)))), (2, .inl (v2))] [] M (some (.inl Rr.1), sd_rp Rr.2, 0, 0)) : ∀ (n : Nat) (v1 : Int) (v2 : Int) (v3 : Int) (M : sd_M) (Rr : Int × sd_M), f_X10_taken_19 k53 n v1 v2 v3 M = some Rr → sd_B X d sd_q_X10_taken 19 [(0, .inr (.inr (some (331)))), (1, .inl (v1)), (2, .inl (v2)), (3, .inl (v3))] [] M (some (.inl Rr.1), sd_rp Rr.2, 0, 0) := by
  intro n
  induction n with
  | zero => intro v1 v2 v3 M Rr h; cases h
  | succ n ih =>
    intro v1 v2 v3 M Rr h
    rw [f_X10_taken_19] at h
    refine sd_b_go 2 (pc2 := 22) (lv2 := [(0, .inr (.inr (some (331)))), (1, .inl (v1)), (2, .inl (v2)), (3, .inl (v3))]) (st2 := [.inl (60), .inl (v3)]) rfl ?_
    by_cases c1 : 60 ≤ v3
    · rw [if_pos c1] at h
      refine sd_b_ct (c := .ge) (tgt := 53) rfl (decide_eq_true c1) (by decide) ?_
      refine sd_b_wk [(0, .inr (.inr (some (331)))), (2, .inl (v2))] (List.forall_mem_cons.mpr ⟨rfl, (List.forall_mem_cons.mpr ⟨rfl, (fun _ h0 => absurd h0 List.not_mem_nil)⟩)⟩) ?_
      exact hk53 v2 M _ h
    · rw [if_neg c1] at h
      refine sd_b_cf (c := .ge) rfl (decide_eq_false c1) (by decide) ?_
      refine sd_b_go 1 (pc2 := 26) (lv2 := [(0, .inr (.inr (some (331)))), (1, .inl (v1)), (2, .inl (v2)), (3, .inl (v3))]) (st2 := [.inl (v2)]) rfl ?_
      by_cases c2 : 0 ≤ v2
      · rw [if_pos c2] at h
        refine sd_b_zt (c := .ge) (tgt := 53) rfl (decide_eq_true c2) (by decide) ?_
        refine sd_b_wk [(0, .inr (.inr (some (331)))), (2, .inl (v2))] (List.forall_mem_cons.mpr ⟨rfl, (List.forall_mem_cons.mpr ⟨rfl, (fun _ h0 => absurd h0 List.not_mem_nil)⟩)⟩) ?_
        exact hk53 v2 M _ h
      · rw [if_neg c2] at h
        refine sd_b_zf (c := .ge) rfl (decide_eq_false c2) (by decide) ?_
        refine sd_b_go 1 (pc2 := 30) (lv2 := [(0, .inr (.inr (some (331)))), (1, .inl (v1)), (2, .inl (v2)), (3, .inl (v3))]) (st2 := [.inr (.inr (some (331)))]) rfl ?_
        obtain ⟨r3, e3, h⟩ := sd_bnd h
        refine sd_b_call [.inr (.inr (some (331)))] [] rfl rfl sd_i_X10_passes rfl rfl (Nat.le_of_ble_eq_true rfl) (sd_rc_v sd_o_331) (m_X10_passes (by omega) e3) ?_
        refine sd_b_go 1 (pc2 := 34) (lv2 := [(0, .inr (.inr (some (331)))), (1, .inl (v1)), (2, .inl (v2)), (3, .inl (v3))]) (st2 := [.inl (v1), .inl (r3.1)]) rfl ?_
        by_cases c4 : r3.1 = v1
        · rw [if_pos c4] at h
          refine sd_b_cf (c := .ne) rfl (decide_eq_false (not_not_intro c4)) (by decide) ?_
          refine sd_b_go 1 (pc2 := 38) (lv2 := [(0, .inr (.inr (some (331)))), (1, .inl (v1)), (2, .inl (v2)), (3, .inl (v3))]) (st2 := [.inr (.inr (some (331)))]) rfl ?_
          refine sd_b_gr (k := 20) sd_o_331 rfl rfl rfl ?_
          refine sd_b_go 1 (pc2 := 43) (lv2 := [(0, .inr (.inr (some (331)))), (1, .inl (v1)), (2, .inl (v2)), (3, .inl (v3))]) (st2 := [.inl (58), .inr (.inr (some (341)))]) rfl ?_
          refine sd_b_ai (i := 58) (sd_oa sd_o_331 (by decide) (off := 10) (List.mem_of_getElem? (i := 9) rfl)) (by decide) rfl ?_
          refine sd_b_go 3 (pc2 := 47) (lv2 := [(2, .inl (sd_w ((r3.2 341 58) - 1))), (0, .inr (.inr (some (331)))), (1, .inl (v1)), (3, .inl (v3))]) (st2 := []) rfl ?_
          refine sd_b_wk [(0, .inr (.inr (some (331)))), (1, .inl (v1)), (2, .inl (sd_w ((r3.2 341 58) - 1))), (3, .inl (v3))] (List.forall_mem_cons.mpr ⟨rfl, (List.forall_mem_cons.mpr ⟨rfl, (List.forall_mem_cons.mpr ⟨rfl, (List.forall_mem_cons.mpr ⟨rfl, (fun _ h0 => absurd h0 List.not_mem_nil)⟩)⟩)⟩)⟩) ?_
          exact t_X10_taken_47 hd (f_X10_taken_19 k53 n) k53 ih hk53 v1 (sd_w ((r3.2 341 58) - 1)) v3 r3.2 _ h
        · rw [if_neg c4] at h
          refine sd_b_ct (c := .ne) (tgt := 47) rfl (decide_eq_true c4) (by decide) ?_
          refine sd_b_wk [(0, .inr (.inr (some (331)))), (1, .inl (v1)), (2, .inl (v2)), (3, .inl (v3))] (List.forall_mem_cons.mpr ⟨rfl, (List.forall_mem_cons.mpr ⟨rfl, (List.forall_mem_cons.mpr ⟨rfl, (List.forall_mem_cons.mpr ⟨rfl, (fun _ h0 => absurd h0 List.not_mem_nil)⟩)⟩)⟩)⟩) ?_
          exact t_X10_taken_47 hd (f_X10_taken_19 k53 n) k53 ih hk53 v1 v2 v3 r3.2 _ h
def f_X10_taken_53 (v2 : Int) (M : sd_M) : Option (Int × sd_M) := (f_X10_laysBack M).bind fun r1 => some (v2, r1.2)
set_option maxRecDepth 4000 in
theorem t_X10_taken_53 {X : Nat → List sd_V → List sd_E → sd_A → Prop} {d : Nat} (hd : 7 ≤ d) (v2 : Int) (M : sd_M) (Rr : Int × sd_M) (h : f_X10_taken_53 v2 M = some Rr) : sd_B X d sd_q_X10_taken 53 [(0, .inr (.inr (some (331)))), (2, .inl (v2))] [] M (some (.inl Rr.1), sd_rp Rr.2, 0, 0) := by
  unfold f_X10_taken_53 at h
  refine sd_b_go 1 (pc2 := 54) (lv2 := [(0, .inr (.inr (some (331)))), (2, .inl (v2))]) (st2 := [.inr (.inr (some (331)))]) rfl ?_
  obtain ⟨r1, e1, h⟩ := sd_bnd h
  refine sd_b_call [.inr (.inr (some (331)))] [] rfl rfl sd_i_X10_laysBack rfl rfl (Nat.le_of_ble_eq_true rfl) (sd_rc_v sd_o_331) (m_X10_laysBack (by omega) e1) ?_
  refine sd_b_go 1 (pc2 := 58) (lv2 := [(0, .inr (.inr (some (331)))), (2, .inl (v2))]) (st2 := [.inl (v2)]) rfl ?_
  cases h
  exact sd_b_rt rfl rfl rfl
def f_X10_taken (p1 : Int) (M : sd_M) : Option (Int × sd_M) := (f_X10_isWaiting p1 M).bind fun r1 => if r1.1 = 0 then (some ((-1), r1.2)) else ((f_X10_keeps r1.2).bind fun r3 => f_X10_taken_19 (f_X10_taken_53) 4000 p1 ((-2)) 0 r3.2)
set_option maxRecDepth 4000 in
theorem t_X10_taken {X : Nat → List sd_V → List sd_E → sd_A → Prop} {d : Nat} (hd : 7 ≤ d) (p1 : Int) (M : sd_M) (Rr : Int × sd_M) (h : f_X10_taken p1 M = some Rr) : sd_B X d sd_q_X10_taken 0 [(0, .inr (.inr (some (331)))), (1, .inl (p1))] [] M (some (.inl Rr.1), sd_rp Rr.2, 0, 0) := by
  unfold f_X10_taken at h
  refine sd_b_go 2 (pc2 := 2) (lv2 := [(0, .inr (.inr (some (331)))), (1, .inl (p1))]) (st2 := [.inl (p1), .inr (.inr (some (331)))]) rfl ?_
  obtain ⟨r1, e1, h⟩ := sd_bnd h
  refine sd_b_call [.inr (.inr (some (331))), .inl (p1)] [] rfl rfl sd_i_X10_isWaiting rfl rfl (Nat.le_of_ble_eq_true rfl) (sd_rc_v sd_o_331) (m_X10_isWaiting (by omega) e1) ?_
  by_cases c2 : r1.1 = 0
  · rw [if_pos c2] at h
    refine sd_b_zf (c := .ne) rfl (decide_eq_false (not_not_intro c2)) (by decide) ?_
    refine sd_b_go 1 (pc2 := 9) (lv2 := [(0, .inr (.inr (some (331)))), (1, .inl (p1))]) (st2 := [.inl ((-1))]) rfl ?_
    cases h
    exact sd_b_rt rfl rfl rfl
  · rw [if_neg c2] at h
    refine sd_b_zt (c := .ne) (tgt := 10) rfl (decide_eq_true c2) (by decide) ?_
    refine sd_b_go 3 (pc2 := 14) (lv2 := [(2, .inl ((-2))), (0, .inr (.inr (some (331)))), (1, .inl (p1))]) (st2 := [.inr (.inr (some (331)))]) rfl ?_
    obtain ⟨r3, e3, h⟩ := sd_bnd h
    refine sd_b_call [.inr (.inr (some (331)))] [] rfl rfl sd_i_X10_keeps rfl rfl (Nat.le_of_ble_eq_true rfl) (sd_rc_v sd_o_331) (m_X10_keeps (by omega) e3) ?_
    refine sd_b_go 2 (pc2 := 19) (lv2 := [(3, .inl (0)), (2, .inl ((-2))), (0, .inr (.inr (some (331)))), (1, .inl (p1))]) (st2 := []) rfl ?_
    refine sd_b_wk [(0, .inr (.inr (some (331)))), (1, .inl (p1)), (2, .inl ((-2))), (3, .inl (0))] (List.forall_mem_cons.mpr ⟨rfl, (List.forall_mem_cons.mpr ⟨rfl, (List.forall_mem_cons.mpr ⟨rfl, (List.forall_mem_cons.mpr ⟨rfl, (fun _ h0 => absurd h0 List.not_mem_nil)⟩)⟩)⟩)⟩) ?_
    exact t_X10_taken_19 hd (f_X10_taken_53) (t_X10_taken_53 hd) 4000 p1 ((-2)) 0 r3.2 _ h
theorem m_X10_taken {X : Nat → List sd_V → List sd_E → sd_A → Prop} {d : Nat} (hd : 8 ≤ d) {p1 : Int} {M : sd_M} {Rr : Int × sd_M} (h : f_X10_taken p1 M = some Rr) : sd_Cal X d 227 [.inr (.inr (some (331))), .inl (p1)] (sd_rp M) (some (.inl Rr.1), sd_rp Rr.2, 0, 0) := by
  obtain ⟨d, rfl⟩ : ∃ d2, d = d2 + 1 := ⟨d - 1, by omega⟩
  exact sd_cal_of sd_i_X10_taken (Nat.le_of_ble_eq_true rfl) (t_X10_taken (by omega) p1 M Rr h)
-- X10_isRest
def sd_q_X10_isRest : sd_MI := (yX10_isRest, cX10_isRest, 4, (some .boolean), 10, 2, sd_t_X10_isRest)
set_option maxRecDepth 4000 in
theorem sd_i_X10_isRest : sd_mL[228]? = some sd_q_X10_isRest := rfl
def f_X10_isRest_2 : Nat → Int → Int → Int → sd_M → Option (Int × sd_M)
  | 0, _, _, _, _ => none
  | n + 1, v1, v2, v3, M => if 3 ≤ v3 then (some (1, M)) else (if 0 ≤ (sd_w (2 * (sd_w ((sd_w (3 * v3)) + v2)))) ∧ (sd_w (2 * (sd_w ((sd_w (3 * v3)) + v2)))) < 18 then (if 0 ≤ (sd_w (2 * (sd_w ((sd_w (3 * v1)) + v2)))) ∧ (sd_w (2 * (sd_w ((sd_w (3 * v1)) + v2)))) < 18 then (if (M 350 (sd_w (2 * (sd_w ((sd_w (3 * v1)) + v2)))).toNat) < (M 350 (sd_w (2 * (sd_w ((sd_w (3 * v3)) + v2)))).toNat) then (some (0, M)) else (if 0 ≤ (sd_w ((sd_w (2 * (sd_w ((sd_w (3 * v1)) + v3)))) + 1)) ∧ (sd_w ((sd_w (2 * (sd_w ((sd_w (3 * v1)) + v3)))) + 1)) < 18 then (if 0 ≤ (sd_w ((sd_w (2 * (sd_w ((sd_w (3 * v1)) + v2)))) + 1)) ∧ (sd_w ((sd_w (2 * (sd_w ((sd_w (3 * v1)) + v2)))) + 1)) < 18 then (if (M 350 (sd_w ((sd_w (2 * (sd_w ((sd_w (3 * v1)) + v3)))) + 1)).toNat) ≤ (M 350 (sd_w ((sd_w (2 * (sd_w ((sd_w (3 * v1)) + v2)))) + 1)).toNat) then (f_X10_isRest_2 n v1 v2 (sd_w (v3 + 1)) M) else (some (0, M))) else none) else none)) else none) else none)
set_option maxRecDepth 4000 in
theorem t_X10_isRest_2 {X : Nat → List sd_V → List sd_E → sd_A → Prop} {d : Nat} (hd : 0 ≤ d) : ∀ (n : Nat) (v1 : Int) (v2 : Int) (v3 : Int) (M : sd_M) (Rr : Int × sd_M), f_X10_isRest_2 n v1 v2 v3 M = some Rr → sd_B X d sd_q_X10_isRest 2 [(0, .inr (.inr (some (331)))), (1, .inl (v1)), (2, .inl (v2)), (3, .inl (v3))] [] M (some (.inl Rr.1), sd_rp Rr.2, 0, 0) := by
  intro n
  induction n with
  | zero => intro v1 v2 v3 M Rr h; cases h
  | succ n ih =>
    intro v1 v2 v3 M Rr h
    rw [f_X10_isRest_2] at h
    refine sd_b_go 2 (pc2 := 4) (lv2 := [(0, .inr (.inr (some (331)))), (1, .inl (v1)), (2, .inl (v2)), (3, .inl (v3))]) (st2 := [.inl (3), .inl (v3)]) rfl ?_
    by_cases c1 : 3 ≤ v3
    · rw [if_pos c1] at h
      refine sd_b_ct (c := .ge) (tgt := 73) rfl (decide_eq_true c1) (by decide) ?_
      refine sd_b_go 1 (pc2 := 74) (lv2 := [(0, .inr (.inr (some (331)))), (1, .inl (v1)), (2, .inl (v2)), (3, .inl (v3))]) (st2 := [.inl (1)]) rfl ?_
      cases h
      exact sd_b_rt rfl rfl rfl
    · rw [if_neg c1] at h
      refine sd_b_cf (c := .ge) rfl (decide_eq_false c1) (by decide) ?_
      refine sd_b_go 1 (pc2 := 8) (lv2 := [(0, .inr (.inr (some (331)))), (1, .inl (v1)), (2, .inl (v2)), (3, .inl (v3))]) (st2 := [.inr (.inr (some (331)))]) rfl ?_
      refine sd_b_gr (k := 35) sd_o_331 rfl rfl rfl ?_
      refine sd_b_go 7 (pc2 := 18) (lv2 := [(0, .inr (.inr (some (331)))), (1, .inl (v1)), (2, .inl (v2)), (3, .inl (v3))]) (st2 := [.inl (sd_w (2 * (sd_w ((sd_w (3 * v3)) + v2)))), .inr (.inr (some (350)))]) rfl ?_
      obtain ⟨g2, h⟩ := sd_if h
      refine sd_b_ai (sd_oa sd_o_331 (by decide) (off := 19) (List.mem_of_getElem? (i := 18) rfl)) g2 rfl ?_
      refine sd_b_go 1 (pc2 := 20) (lv2 := [(0, .inr (.inr (some (331)))), (1, .inl (v1)), (2, .inl (v2)), (3, .inl (v3))]) (st2 := [.inr (.inr (some (331))), .inl (M 350 (sd_w (2 * (sd_w ((sd_w (3 * v3)) + v2)))).toNat)]) rfl ?_
      refine sd_b_gr (k := 35) sd_o_331 rfl rfl rfl ?_
      refine sd_b_go 7 (pc2 := 30) (lv2 := [(0, .inr (.inr (some (331)))), (1, .inl (v1)), (2, .inl (v2)), (3, .inl (v3))]) (st2 := [.inl (sd_w (2 * (sd_w ((sd_w (3 * v1)) + v2)))), .inr (.inr (some (350))), .inl (M 350 (sd_w (2 * (sd_w ((sd_w (3 * v3)) + v2)))).toNat)]) rfl ?_
      obtain ⟨g3, h⟩ := sd_if h
      refine sd_b_ai (sd_oa sd_o_331 (by decide) (off := 19) (List.mem_of_getElem? (i := 18) rfl)) g3 rfl ?_
      by_cases c4 : (M 350 (sd_w (2 * (sd_w ((sd_w (3 * v1)) + v2)))).toNat) < (M 350 (sd_w (2 * (sd_w ((sd_w (3 * v3)) + v2)))).toNat)
      · rw [if_pos c4] at h
        refine sd_b_ct (c := .gt) (tgt := 65) rfl (decide_eq_true c4) (by decide) ?_
        refine sd_b_go 1 (pc2 := 66) (lv2 := [(0, .inr (.inr (some (331)))), (1, .inl (v1)), (2, .inl (v2)), (3, .inl (v3))]) (st2 := [.inl (0)]) rfl ?_
        cases h
        exact sd_b_rt rfl rfl rfl
      · rw [if_neg c4] at h
        refine sd_b_cf (c := .gt) rfl (decide_eq_false c4) (by decide) ?_
        refine sd_b_go 1 (pc2 := 35) (lv2 := [(0, .inr (.inr (some (331)))), (1, .inl (v1)), (2, .inl (v2)), (3, .inl (v3))]) (st2 := [.inr (.inr (some (331)))]) rfl ?_
        refine sd_b_gr (k := 35) sd_o_331 rfl rfl rfl ?_
        refine sd_b_go 9 (pc2 := 47) (lv2 := [(0, .inr (.inr (some (331)))), (1, .inl (v1)), (2, .inl (v2)), (3, .inl (v3))]) (st2 := [.inl (sd_w ((sd_w (2 * (sd_w ((sd_w (3 * v1)) + v3)))) + 1)), .inr (.inr (some (350)))]) rfl ?_
        obtain ⟨g5, h⟩ := sd_if h
        refine sd_b_ai (sd_oa sd_o_331 (by decide) (off := 19) (List.mem_of_getElem? (i := 18) rfl)) g5 rfl ?_
        refine sd_b_go 1 (pc2 := 49) (lv2 := [(0, .inr (.inr (some (331)))), (1, .inl (v1)), (2, .inl (v2)), (3, .inl (v3))]) (st2 := [.inr (.inr (some (331))), .inl (M 350 (sd_w ((sd_w (2 * (sd_w ((sd_w (3 * v1)) + v3)))) + 1)).toNat)]) rfl ?_
        refine sd_b_gr (k := 35) sd_o_331 rfl rfl rfl ?_
        refine sd_b_go 9 (pc2 := 61) (lv2 := [(0, .inr (.inr (some (331)))), (1, .inl (v1)), (2, .inl (v2)), (3, .inl (v3))]) (st2 := [.inl (sd_w ((sd_w (2 * (sd_w ((sd_w (3 * v1)) + v2)))) + 1)), .inr (.inr (some (350))), .inl (M 350 (sd_w ((sd_w (2 * (sd_w ((sd_w (3 * v1)) + v3)))) + 1)).toNat)]) rfl ?_
        obtain ⟨g6, h⟩ := sd_if h
        refine sd_b_ai (sd_oa sd_o_331 (by decide) (off := 19) (List.mem_of_getElem? (i := 18) rfl)) g6 rfl ?_
        by_cases c7 : (M 350 (sd_w ((sd_w (2 * (sd_w ((sd_w (3 * v1)) + v3)))) + 1)).toNat) ≤ (M 350 (sd_w ((sd_w (2 * (sd_w ((sd_w (3 * v1)) + v2)))) + 1)).toNat)
        · rw [if_pos c7] at h
          refine sd_b_ct (c := .le) (tgt := 67) rfl (decide_eq_true c7) (by decide) ?_
          refine sd_b_go 2 (pc2 := 2) (lv2 := [(3, .inl (sd_w (v3 + 1))), (0, .inr (.inr (some (331)))), (1, .inl (v1)), (2, .inl (v2))]) (st2 := []) rfl ?_
          refine sd_b_wk [(0, .inr (.inr (some (331)))), (1, .inl (v1)), (2, .inl (v2)), (3, .inl (sd_w (v3 + 1)))] (List.forall_mem_cons.mpr ⟨rfl, (List.forall_mem_cons.mpr ⟨rfl, (List.forall_mem_cons.mpr ⟨rfl, (List.forall_mem_cons.mpr ⟨rfl, (fun _ h0 => absurd h0 List.not_mem_nil)⟩)⟩)⟩)⟩) ?_
          exact ih v1 v2 (sd_w (v3 + 1)) M _ h
        · rw [if_neg c7] at h
          refine sd_b_cf (c := .le) rfl (decide_eq_false c7) (by decide) ?_
          refine sd_b_go 1 (pc2 := 66) (lv2 := [(0, .inr (.inr (some (331)))), (1, .inl (v1)), (2, .inl (v2)), (3, .inl (v3))]) (st2 := [.inl (0)]) rfl ?_
          cases h
          exact sd_b_rt rfl rfl rfl
def f_X10_isRest (p1 : Int) (p2 : Int) (M : sd_M) : Option (Int × sd_M) := f_X10_isRest_2 4000 p1 p2 0 M
set_option maxRecDepth 4000 in
theorem t_X10_isRest {X : Nat → List sd_V → List sd_E → sd_A → Prop} {d : Nat} (hd : 0 ≤ d) (p1 : Int) (p2 : Int) (M : sd_M) (Rr : Int × sd_M) (h : f_X10_isRest p1 p2 M = some Rr) : sd_B X d sd_q_X10_isRest 0 [(0, .inr (.inr (some (331)))), (1, .inl (p1)), (2, .inl (p2))] [] M (some (.inl Rr.1), sd_rp Rr.2, 0, 0) := by
  unfold f_X10_isRest at h
  refine sd_b_go 2 (pc2 := 2) (lv2 := [(3, .inl (0)), (0, .inr (.inr (some (331)))), (1, .inl (p1)), (2, .inl (p2))]) (st2 := []) rfl ?_
  refine sd_b_wk [(0, .inr (.inr (some (331)))), (1, .inl (p1)), (2, .inl (p2)), (3, .inl (0))] (List.forall_mem_cons.mpr ⟨rfl, (List.forall_mem_cons.mpr ⟨rfl, (List.forall_mem_cons.mpr ⟨rfl, (List.forall_mem_cons.mpr ⟨rfl, (fun _ h0 => absurd h0 List.not_mem_nil)⟩)⟩)⟩)⟩) ?_
  exact t_X10_isRest_2 hd 4000 p1 p2 0 M _ h
theorem m_X10_isRest {X : Nat → List sd_V → List sd_E → sd_A → Prop} {d : Nat} (hd : 1 ≤ d) {p1 : Int} {p2 : Int} {M : sd_M} {Rr : Int × sd_M} (h : f_X10_isRest p1 p2 M = some Rr) : sd_Cal X d 228 [.inr (.inr (some (331))), .inl (p1), .inl (p2)] (sd_rp M) (some (.inl Rr.1), sd_rp Rr.2, 0, 0) := by
  obtain ⟨d, rfl⟩ : ∃ d2, d = d2 + 1 := ⟨d - 1, by omega⟩
  exact sd_cal_of sd_i_X10_isRest (Nat.le_of_ble_eq_true rfl) (t_X10_isRest (by omega) p1 p2 M Rr h)
-- X10_timesOf
def sd_q_X10_timesOf : sd_MI := (yX10_timesOf, cX10_timesOf, 4, (some .int), 10, 2, sd_t_X10_timesOf)
set_option maxRecDepth 4000 in
theorem sd_i_X10_timesOf : sd_mL[229]? = some sd_q_X10_timesOf := rfl
def f_X10_timesOf (p1 : Int) (p2 : Int) (M : sd_M) : Option (Int × sd_M) := if 0 ≤ (sd_w (62 + p1)) ∧ (sd_w (62 + p1)) < 128 then (if 999 ≤ (sd_w (p2 * (M 341 (sd_w (62 + p1)).toNat))) then (some (999, M)) else (some (sd_w (p2 * (M 341 (sd_w (62 + p1)).toNat)), M))) else none
set_option maxRecDepth 4000 in
theorem t_X10_timesOf {X : Nat → List sd_V → List sd_E → sd_A → Prop} {d : Nat} (hd : 0 ≤ d) (p1 : Int) (p2 : Int) (M : sd_M) (Rr : Int × sd_M) (h : f_X10_timesOf p1 p2 M = some Rr) : sd_B X d sd_q_X10_timesOf 0 [(0, .inr (.inr (some (331)))), (1, .inl (p1)), (2, .inl (p2))] [] M (some (.inl Rr.1), sd_rp Rr.2, 0, 0) := by
  unfold f_X10_timesOf at h
  refine sd_b_go 2 (pc2 := 2) (lv2 := [(0, .inr (.inr (some (331)))), (1, .inl (p1)), (2, .inl (p2))]) (st2 := [.inr (.inr (some (331))), .inl (p2)]) rfl ?_
  refine sd_b_gr (k := 20) sd_o_331 rfl rfl rfl ?_
  refine sd_b_go 3 (pc2 := 9) (lv2 := [(0, .inr (.inr (some (331)))), (1, .inl (p1)), (2, .inl (p2))]) (st2 := [.inl (sd_w (62 + p1)), .inr (.inr (some (341))), .inl (p2)]) rfl ?_
  obtain ⟨g1, h⟩ := sd_if h
  refine sd_b_ai (sd_oa sd_o_331 (by decide) (off := 10) (List.mem_of_getElem? (i := 9) rfl)) g1 rfl ?_
  refine sd_b_go 4 (pc2 := 16) (lv2 := [(3, .inl (sd_w (p2 * (M 341 (sd_w (62 + p1)).toNat)))), (0, .inr (.inr (some (331)))), (1, .inl (p1)), (2, .inl (p2))]) (st2 := [.inl (999), .inl (sd_w (p2 * (M 341 (sd_w (62 + p1)).toNat)))]) rfl ?_
  by_cases c2 : 999 ≤ (sd_w (p2 * (M 341 (sd_w (62 + p1)).toNat)))
  · rw [if_pos c2] at h
    refine sd_b_ct (c := .ge) (tgt := 23) rfl (decide_eq_true c2) (by decide) ?_
    refine sd_b_go 1 (pc2 := 26) (lv2 := [(3, .inl (sd_w (p2 * (M 341 (sd_w (62 + p1)).toNat)))), (0, .inr (.inr (some (331)))), (1, .inl (p1)), (2, .inl (p2))]) (st2 := [.inl (999)]) rfl ?_
    cases h
    exact sd_b_rt rfl rfl rfl
  · rw [if_neg c2] at h
    refine sd_b_cf (c := .ge) rfl (decide_eq_false c2) (by decide) ?_
    refine sd_b_go 2 (pc2 := 26) (lv2 := [(3, .inl (sd_w (p2 * (M 341 (sd_w (62 + p1)).toNat)))), (0, .inr (.inr (some (331)))), (1, .inl (p1)), (2, .inl (p2))]) (st2 := [.inl (sd_w (p2 * (M 341 (sd_w (62 + p1)).toNat)))]) rfl ?_
    cases h
    exact sd_b_rt rfl rfl rfl
theorem m_X10_timesOf {X : Nat → List sd_V → List sd_E → sd_A → Prop} {d : Nat} (hd : 1 ≤ d) {p1 : Int} {p2 : Int} {M : sd_M} {Rr : Int × sd_M} (h : f_X10_timesOf p1 p2 M = some Rr) : sd_Cal X d 229 [.inr (.inr (some (331))), .inl (p1), .inl (p2)] (sd_rp M) (some (.inl Rr.1), sd_rp Rr.2, 0, 0) := by
  obtain ⟨d, rfl⟩ : ∃ d2, d = d2 + 1 := ⟨d - 1, by omega⟩
  exact sd_cal_of sd_i_X10_timesOf (Nat.le_of_ble_eq_true rfl) (t_X10_timesOf (by omega) p1 p2 M Rr h)
-- X10_fillsRest
def sd_q_X10_fillsRest : sd_MI := (yX10_fillsRest, cX10_fillsRest, 6, none, 10, 3, sd_t_X10_fillsRest)
set_option maxRecDepth 4000 in
theorem sd_i_X10_fillsRest : sd_mL[230]? = some sd_q_X10_fillsRest := rfl
def f_X10_fillsRest (p1 : Int) (p2 : Int) (p3 : Int) (M : sd_M) : Option (Int × sd_M) := (f_X10_timesOf p1 (sd_w (1 + (sd_w (Int.tdiv p3 3)))) M).bind fun r1 => (f_X10_timesOf p2 (sd_w (1 + (Int.tmod p3 3))) r1.2).bind fun r2 => if 0 ≤ (sd_w (62 + p1)) ∧ (sd_w (62 + p1)) < 128 then (if 0 ≤ (sd_w (62 + p2)) ∧ (sd_w (62 + p2)) < 128 then ((f_X10_settlesAll (sd_s (sd_s r2.2 341 (sd_w (62 + p1)).toNat r1.1) 341 (sd_w (62 + p2)).toNat r2.1)).bind fun r5 => (f_X10_signedOf p1 r5.2).bind fun r6 => if 0 ≤ (sd_w (2 * p3)) ∧ (sd_w (2 * p3)) < 18 then ((f_X10_signedOf p2 (sd_s r6.2 350 (sd_w (2 * p3)).toNat (sd_w ((sd_w (3 * r6.1)) - r1.1)))).bind fun r8 => if 0 ≤ (sd_w ((sd_w (2 * p3)) + 1)) ∧ (sd_w ((sd_w (2 * p3)) + 1)) < 18 then ((f_X10_laysBack (sd_s r8.2 350 (sd_w ((sd_w (2 * p3)) + 1)).toNat (sd_w ((sd_w (3 * r8.1)) - r2.1)))).bind fun r10 => some (0, r10.2)) else none) else none) else none) else none
set_option maxRecDepth 4000 in
theorem t_X10_fillsRest {X : Nat → List sd_V → List sd_E → sd_A → Prop} {d : Nat} (hd : 6 ≤ d) (p1 : Int) (p2 : Int) (p3 : Int) (M : sd_M) (Rr : Int × sd_M) (h : f_X10_fillsRest p1 p2 p3 M = some Rr) : sd_B X d sd_q_X10_fillsRest 0 [(0, .inr (.inr (some (331)))), (1, .inl (p1)), (2, .inl (p2)), (3, .inl (p3))] [] M (none, sd_rp Rr.2, 0, 0) := by
  unfold f_X10_fillsRest at h
  refine sd_b_go 5 (pc2 := 5) (lv2 := [(0, .inr (.inr (some (331)))), (1, .inl (p1)), (2, .inl (p2)), (3, .inl (p3))]) (st2 := [.inl (3), .inl (p3), .inl (1), .inl (p1), .inr (.inr (some (331)))]) rfl ?_
  refine sd_b_dz (by decide) rfl rfl ?_
  refine sd_b_go 1 (pc2 := 7) (lv2 := [(0, .inr (.inr (some (331)))), (1, .inl (p1)), (2, .inl (p2)), (3, .inl (p3))]) (st2 := [.inl (sd_w (1 + (sd_w (Int.tdiv p3 3)))), .inl (p1), .inr (.inr (some (331)))]) rfl ?_
  obtain ⟨r1, e1, h⟩ := sd_bnd h
  refine sd_b_call [.inr (.inr (some (331))), .inl (p1), .inl (sd_w (1 + (sd_w (Int.tdiv p3 3))))] [] rfl rfl sd_i_X10_timesOf rfl rfl (Nat.le_of_ble_eq_true rfl) (sd_rc_v sd_o_331) (m_X10_timesOf (by omega) e1) ?_
  refine sd_b_go 6 (pc2 := 17) (lv2 := [(4, .inl (r1.1)), (0, .inr (.inr (some (331)))), (1, .inl (p1)), (2, .inl (p2)), (3, .inl (p3))]) (st2 := [.inl (3), .inl (p3), .inl (1), .inl (p2), .inr (.inr (some (331)))]) rfl ?_
  refine sd_b_mz (by decide) rfl ?_
  refine sd_b_go 1 (pc2 := 19) (lv2 := [(4, .inl (r1.1)), (0, .inr (.inr (some (331)))), (1, .inl (p1)), (2, .inl (p2)), (3, .inl (p3))]) (st2 := [.inl (sd_w (1 + (Int.tmod p3 3))), .inl (p2), .inr (.inr (some (331)))]) rfl ?_
  obtain ⟨r2, e2, h⟩ := sd_bnd h
  refine sd_b_call [.inr (.inr (some (331))), .inl (p2), .inl (sd_w (1 + (Int.tmod p3 3)))] [] rfl rfl sd_i_X10_timesOf rfl rfl (Nat.le_of_ble_eq_true rfl) (sd_rc_v sd_o_331) (m_X10_timesOf (by omega) e2) ?_
  refine sd_b_go 2 (pc2 := 25) (lv2 := [(5, .inl (r2.1)), (4, .inl (r1.1)), (0, .inr (.inr (some (331)))), (1, .inl (p1)), (2, .inl (p2)), (3, .inl (p3))]) (st2 := [.inr (.inr (some (331)))]) rfl ?_
  refine sd_b_gr (k := 20) sd_o_331 rfl rfl rfl ?_
  refine sd_b_go 4 (pc2 := 34) (lv2 := [(5, .inl (r2.1)), (4, .inl (r1.1)), (0, .inr (.inr (some (331)))), (1, .inl (p1)), (2, .inl (p2)), (3, .inl (p3))]) (st2 := [.inl (r1.1), .inl (sd_w (62 + p1)), .inr (.inr (some (341)))]) rfl ?_
  obtain ⟨g3, h⟩ := sd_if h
  refine sd_b_si (sd_oa sd_o_331 (by decide) (off := 10) (List.mem_of_getElem? (i := 9) rfl)) g3 rfl ?_
  refine sd_b_go 1 (pc2 := 36) (lv2 := [(5, .inl (r2.1)), (4, .inl (r1.1)), (0, .inr (.inr (some (331)))), (1, .inl (p1)), (2, .inl (p2)), (3, .inl (p3))]) (st2 := [.inr (.inr (some (331)))]) rfl ?_
  refine sd_b_gr (k := 20) sd_o_331 rfl rfl rfl ?_
  refine sd_b_go 4 (pc2 := 45) (lv2 := [(5, .inl (r2.1)), (4, .inl (r1.1)), (0, .inr (.inr (some (331)))), (1, .inl (p1)), (2, .inl (p2)), (3, .inl (p3))]) (st2 := [.inl (r2.1), .inl (sd_w (62 + p2)), .inr (.inr (some (341)))]) rfl ?_
  obtain ⟨g4, h⟩ := sd_if h
  refine sd_b_si (sd_oa sd_o_331 (by decide) (off := 10) (List.mem_of_getElem? (i := 9) rfl)) g4 rfl ?_
  refine sd_b_go 1 (pc2 := 47) (lv2 := [(5, .inl (r2.1)), (4, .inl (r1.1)), (0, .inr (.inr (some (331)))), (1, .inl (p1)), (2, .inl (p2)), (3, .inl (p3))]) (st2 := [.inr (.inr (some (331)))]) rfl ?_
  obtain ⟨r5, e5, h⟩ := sd_bnd h
  refine sd_b_call [.inr (.inr (some (331)))] [] rfl rfl sd_i_X10_settlesAll rfl rfl (Nat.le_of_ble_eq_true rfl) (sd_rc_v sd_o_331) (m_X10_settlesAll (by omega) e5) ?_
  refine sd_b_go 1 (pc2 := 51) (lv2 := [(5, .inl (r2.1)), (4, .inl (r1.1)), (0, .inr (.inr (some (331)))), (1, .inl (p1)), (2, .inl (p2)), (3, .inl (p3))]) (st2 := [.inr (.inr (some (331)))]) rfl ?_
  refine sd_b_gr (k := 35) sd_o_331 rfl rfl rfl ?_
  refine sd_b_go 6 (pc2 := 60) (lv2 := [(5, .inl (r2.1)), (4, .inl (r1.1)), (0, .inr (.inr (some (331)))), (1, .inl (p1)), (2, .inl (p2)), (3, .inl (p3))]) (st2 := [.inl (p1), .inr (.inr (some (331))), .inl (3), .inl (sd_w (2 * p3)), .inr (.inr (some (350)))]) rfl ?_
  obtain ⟨r6, e6, h⟩ := sd_bnd h
  refine sd_b_call [.inr (.inr (some (331))), .inl (p1)] [.inl (3), .inl (sd_w (2 * p3)), .inr (.inr (some (350)))] rfl rfl sd_i_X10_signedOf rfl rfl (Nat.le_of_ble_eq_true rfl) (sd_rc_v sd_o_331) (m_X10_signedOf (by omega) e6) ?_
  refine sd_b_go 3 (pc2 := 67) (lv2 := [(5, .inl (r2.1)), (4, .inl (r1.1)), (0, .inr (.inr (some (331)))), (1, .inl (p1)), (2, .inl (p2)), (3, .inl (p3))]) (st2 := [.inl (sd_w ((sd_w (3 * r6.1)) - r1.1)), .inl (sd_w (2 * p3)), .inr (.inr (some (350)))]) rfl ?_
  obtain ⟨g7, h⟩ := sd_if h
  refine sd_b_si (sd_oa sd_o_331 (by decide) (off := 19) (List.mem_of_getElem? (i := 18) rfl)) g7 rfl ?_
  refine sd_b_go 1 (pc2 := 69) (lv2 := [(5, .inl (r2.1)), (4, .inl (r1.1)), (0, .inr (.inr (some (331)))), (1, .inl (p1)), (2, .inl (p2)), (3, .inl (p3))]) (st2 := [.inr (.inr (some (331)))]) rfl ?_
  refine sd_b_gr (k := 35) sd_o_331 rfl rfl rfl ?_
  refine sd_b_go 8 (pc2 := 80) (lv2 := [(5, .inl (r2.1)), (4, .inl (r1.1)), (0, .inr (.inr (some (331)))), (1, .inl (p1)), (2, .inl (p2)), (3, .inl (p3))]) (st2 := [.inl (p2), .inr (.inr (some (331))), .inl (3), .inl (sd_w ((sd_w (2 * p3)) + 1)), .inr (.inr (some (350)))]) rfl ?_
  obtain ⟨r8, e8, h⟩ := sd_bnd h
  refine sd_b_call [.inr (.inr (some (331))), .inl (p2)] [.inl (3), .inl (sd_w ((sd_w (2 * p3)) + 1)), .inr (.inr (some (350)))] rfl rfl sd_i_X10_signedOf rfl rfl (Nat.le_of_ble_eq_true rfl) (sd_rc_v sd_o_331) (m_X10_signedOf (by omega) e8) ?_
  refine sd_b_go 3 (pc2 := 87) (lv2 := [(5, .inl (r2.1)), (4, .inl (r1.1)), (0, .inr (.inr (some (331)))), (1, .inl (p1)), (2, .inl (p2)), (3, .inl (p3))]) (st2 := [.inl (sd_w ((sd_w (3 * r8.1)) - r2.1)), .inl (sd_w ((sd_w (2 * p3)) + 1)), .inr (.inr (some (350)))]) rfl ?_
  obtain ⟨g9, h⟩ := sd_if h
  refine sd_b_si (sd_oa sd_o_331 (by decide) (off := 19) (List.mem_of_getElem? (i := 18) rfl)) g9 rfl ?_
  refine sd_b_go 1 (pc2 := 89) (lv2 := [(5, .inl (r2.1)), (4, .inl (r1.1)), (0, .inr (.inr (some (331)))), (1, .inl (p1)), (2, .inl (p2)), (3, .inl (p3))]) (st2 := [.inr (.inr (some (331)))]) rfl ?_
  obtain ⟨r10, e10, h⟩ := sd_bnd h
  refine sd_b_call [.inr (.inr (some (331)))] [] rfl rfl sd_i_X10_laysBack rfl rfl (Nat.le_of_ble_eq_true rfl) (sd_rc_v sd_o_331) (m_X10_laysBack (by omega) e10) ?_
  cases h
  exact sd_b_rt rfl rfl rfl
theorem m_X10_fillsRest {X : Nat → List sd_V → List sd_E → sd_A → Prop} {d : Nat} (hd : 7 ≤ d) {p1 : Int} {p2 : Int} {p3 : Int} {M : sd_M} {Rr : Int × sd_M} (h : f_X10_fillsRest p1 p2 p3 M = some Rr) : sd_Cal X d 230 [.inr (.inr (some (331))), .inl (p1), .inl (p2), .inl (p3)] (sd_rp M) (none, sd_rp Rr.2, 0, 0) := by
  obtain ⟨d, rfl⟩ : ∃ d2, d = d2 + 1 := ⟨d - 1, by omega⟩
  exact sd_cal_of sd_i_X10_fillsRest (Nat.le_of_ble_eq_true rfl) (t_X10_fillsRest (by omega) p1 p2 p3 M Rr h)
-- X10_rests
def sd_q_X10_rests : sd_MI := (yX10_rests, cX10_rests, 7, (some .int), 10, 3, sd_t_X10_rests)
set_option maxRecDepth 4000 in
theorem sd_i_X10_rests : sd_mL[231]? = some sd_q_X10_rests := rfl
def f_X10_rests_42 (k63 : Int → sd_M → Option (Int × sd_M)) : Nat → Int → Int → Int → Int → sd_M → Option (Int × sd_M)
  | 0, _, _, _, _, _ => none
  | n + 1, v1, v2, v3, v4, M => if 9 ≤ v4 then (k63 v3 M) else ((f_X10_fillsRest v1 v2 v4 M).bind fun r2 => f_X10_rests_42 k63 n v1 v2 v3 (sd_w (v4 + 1)) r2.2)
set_option maxRecDepth 4000 in
theorem t_X10_rests_42 {X : Nat → List sd_V → List sd_E → sd_A → Prop} {d : Nat} (hd : 7 ≤ d) (k63 : Int → sd_M → Option (Int × sd_M)) (hk63 : ∀ (v3 : Int) (M : sd_M) (Rr : Int × sd_M), k63 v3 M = some Rr → sd_B X d sd_q_X10_rests 63 [(0, .inr (.inr (some (331)))), (3, .inl (v3))] [] M (some (.inl Rr.1), sd_rp Rr.2, 0, 0)) : ∀ (n : Nat) (v1 : Int) (v2 : Int) (v3 : Int) (v4 : Int) (M : sd_M) (Rr : Int × sd_M), f_X10_rests_42 k63 n v1 v2 v3 v4 M = some Rr → sd_B X d sd_q_X10_rests 42 [(0, .inr (.inr (some (331)))), (1, .inl (v1)), (2, .inl (v2)), (3, .inl (v3)), (4, .inl (v4))] [] M (some (.inl Rr.1), sd_rp Rr.2, 0, 0) := by
  intro n
  induction n with
  | zero => intro v1 v2 v3 v4 M Rr h; cases h
  | succ n ih =>
    intro v1 v2 v3 v4 M Rr h
    rw [f_X10_rests_42] at h
    refine sd_b_go 2 (pc2 := 46) (lv2 := [(0, .inr (.inr (some (331)))), (1, .inl (v1)), (2, .inl (v2)), (3, .inl (v3)), (4, .inl (v4))]) (st2 := [.inl (9), .inl (v4)]) rfl ?_
    by_cases c1 : 9 ≤ v4
    · rw [if_pos c1] at h
      refine sd_b_ct (c := .ge) (tgt := 63) rfl (decide_eq_true c1) (by decide) ?_
      refine sd_b_wk [(0, .inr (.inr (some (331)))), (3, .inl (v3))] (List.forall_mem_cons.mpr ⟨rfl, (List.forall_mem_cons.mpr ⟨rfl, (fun _ h0 => absurd h0 List.not_mem_nil)⟩)⟩) ?_
      exact hk63 v3 M _ h
    · rw [if_neg c1] at h
      refine sd_b_cf (c := .ge) rfl (decide_eq_false c1) (by decide) ?_
      refine sd_b_go 4 (pc2 := 54) (lv2 := [(0, .inr (.inr (some (331)))), (1, .inl (v1)), (2, .inl (v2)), (3, .inl (v3)), (4, .inl (v4))]) (st2 := [.inl (v4), .inl (v2), .inl (v1), .inr (.inr (some (331)))]) rfl ?_
      obtain ⟨r2, e2, h⟩ := sd_bnd h
      refine sd_b_call [.inr (.inr (some (331))), .inl (v1), .inl (v2), .inl (v4)] [] rfl rfl sd_i_X10_fillsRest rfl rfl (Nat.le_of_ble_eq_true rfl) (sd_rc_v sd_o_331) (m_X10_fillsRest (by omega) e2) ?_
      refine sd_b_go 2 (pc2 := 42) (lv2 := [(4, .inl (sd_w (v4 + 1))), (0, .inr (.inr (some (331)))), (1, .inl (v1)), (2, .inl (v2)), (3, .inl (v3))]) (st2 := []) rfl ?_
      refine sd_b_wk [(0, .inr (.inr (some (331)))), (1, .inl (v1)), (2, .inl (v2)), (3, .inl (v3)), (4, .inl (sd_w (v4 + 1)))] (List.forall_mem_cons.mpr ⟨rfl, (List.forall_mem_cons.mpr ⟨rfl, (List.forall_mem_cons.mpr ⟨rfl, (List.forall_mem_cons.mpr ⟨rfl, (List.forall_mem_cons.mpr ⟨rfl, (fun _ h0 => absurd h0 List.not_mem_nil)⟩)⟩)⟩)⟩)⟩) ?_
      exact ih v1 v2 v3 (sd_w (v4 + 1)) r2.2 _ h
def f_X10_rests_103 (k73 : Int → Int → Int → Int → sd_M → Option (Int × sd_M)) (k109 : Int → Int → Int → sd_M → Option (Int × sd_M)) (v3 : Int) (v4 : Int) (v5 : Int) (v6 : Int) (M : sd_M) : Option (Int × sd_M) := k73 v3 v4 v5 (sd_w (v6 + (-1))) M
set_option maxRecDepth 4000 in
theorem t_X10_rests_103 {X : Nat → List sd_V → List sd_E → sd_A → Prop} {d : Nat} (hd : 7 ≤ d) (k73 : Int → Int → Int → Int → sd_M → Option (Int × sd_M)) (k109 : Int → Int → Int → sd_M → Option (Int × sd_M)) (hk73 : ∀ (v3 : Int) (v4 : Int) (v5 : Int) (v6 : Int) (M : sd_M) (Rr : Int × sd_M), k73 v3 v4 v5 v6 M = some Rr → sd_B X d sd_q_X10_rests 73 [(0, .inr (.inr (some (331)))), (3, .inl (v3)), (4, .inl (v4)), (5, .inl (v5)), (6, .inl (v6))] [] M (some (.inl Rr.1), sd_rp Rr.2, 0, 0)) (hk109 : ∀ (v3 : Int) (v4 : Int) (v5 : Int) (M : sd_M) (Rr : Int × sd_M), k109 v3 v4 v5 M = some Rr → sd_B X d sd_q_X10_rests 109 [(3, .inl (v3)), (4, .inl (v4)), (5, .inl (v5))] [] M (some (.inl Rr.1), sd_rp Rr.2, 0, 0)) (v3 : Int) (v4 : Int) (v5 : Int) (v6 : Int) (M : sd_M) (Rr : Int × sd_M) (h : f_X10_rests_103 k73 k109 v3 v4 v5 v6 M = some Rr) : sd_B X d sd_q_X10_rests 103 [(0, .inr (.inr (some (331)))), (3, .inl (v3)), (4, .inl (v4)), (5, .inl (v5)), (6, .inl (v6))] [] M (some (.inl Rr.1), sd_rp Rr.2, 0, 0) := by
  unfold f_X10_rests_103 at h
  refine sd_b_go 2 (pc2 := 73) (lv2 := [(6, .inl (sd_w (v6 + (-1)))), (0, .inr (.inr (some (331)))), (3, .inl (v3)), (4, .inl (v4)), (5, .inl (v5))]) (st2 := []) rfl ?_
  refine sd_b_wk [(0, .inr (.inr (some (331)))), (3, .inl (v3)), (4, .inl (v4)), (5, .inl (v5)), (6, .inl (sd_w (v6 + (-1))))] (List.forall_mem_cons.mpr ⟨rfl, (List.forall_mem_cons.mpr ⟨rfl, (List.forall_mem_cons.mpr ⟨rfl, (List.forall_mem_cons.mpr ⟨rfl, (List.forall_mem_cons.mpr ⟨rfl, (fun _ h0 => absurd h0 List.not_mem_nil)⟩)⟩)⟩)⟩)⟩) ?_
  exact hk73 v3 v4 v5 (sd_w (v6 + (-1))) M _ h
def f_X10_rests_73 (k109 : Int → Int → Int → sd_M → Option (Int × sd_M)) : Nat → Int → Int → Int → Int → sd_M → Option (Int × sd_M)
  | 0, _, _, _, _, _ => none
  | n + 1, v3, v4, v5, v6, M => if v6 < 0 then (k109 v3 v4 v5 M) else ((f_X10_isRest (sd_w (Int.tdiv v6 3)) (Int.tmod v6 3) M).bind fun r2 => if r2.1 = 0 then (f_X10_rests_103 (f_X10_rests_73 k109 n) k109 v3 v4 v5 v6 r2.2) else (f_X10_rests_103 (f_X10_rests_73 k109 n) k109 v3 (sd_w (v4 + 1)) v6 v6 r2.2))
set_option maxRecDepth 4000 in
theorem t_X10_rests_73 {X : Nat → List sd_V → List sd_E → sd_A → Prop} {d : Nat} (hd : 7 ≤ d) (k109 : Int → Int → Int → sd_M → Option (Int × sd_M)) (hk109 : ∀ (v3 : Int) (v4 : Int) (v5 : Int) (M : sd_M) (Rr : Int × sd_M), k109 v3 v4 v5 M = some Rr → sd_B X d sd_q_X10_rests 109 [(3, .inl (v3)), (4, .inl (v4)), (5, .inl (v5))] [] M (some (.inl Rr.1), sd_rp Rr.2, 0, 0)) : ∀ (n : Nat) (v3 : Int) (v4 : Int) (v5 : Int) (v6 : Int) (M : sd_M) (Rr : Int × sd_M), f_X10_rests_73 k109 n v3 v4 v5 v6 M = some Rr → sd_B X d sd_q_X10_rests 73 [(0, .inr (.inr (some (331)))), (3, .inl (v3)), (4, .inl (v4)), (5, .inl (v5)), (6, .inl (v6))] [] M (some (.inl Rr.1), sd_rp Rr.2, 0, 0) := by
  intro n
  induction n with
  | zero => intro v3 v4 v5 v6 M Rr h; cases h
  | succ n ih =>
    intro v3 v4 v5 v6 M Rr h
    rw [f_X10_rests_73] at h
    refine sd_b_go 1 (pc2 := 75) (lv2 := [(0, .inr (.inr (some (331)))), (3, .inl (v3)), (4, .inl (v4)), (5, .inl (v5)), (6, .inl (v6))]) (st2 := [.inl (v6)]) rfl ?_
    by_cases c1 : v6 < 0
    · rw [if_pos c1] at h
      refine sd_b_zt (c := .lt) (tgt := 109) rfl (decide_eq_true c1) (by decide) ?_
      refine sd_b_wk [(3, .inl (v3)), (4, .inl (v4)), (5, .inl (v5))] (List.forall_mem_cons.mpr ⟨rfl, (List.forall_mem_cons.mpr ⟨rfl, (List.forall_mem_cons.mpr ⟨rfl, (fun _ h0 => absurd h0 List.not_mem_nil)⟩)⟩)⟩) ?_
      exact hk109 v3 v4 v5 M _ h
    · rw [if_neg c1] at h
      refine sd_b_zf (c := .lt) rfl (decide_eq_false c1) (by decide) ?_
      refine sd_b_go 3 (pc2 := 82) (lv2 := [(0, .inr (.inr (some (331)))), (3, .inl (v3)), (4, .inl (v4)), (5, .inl (v5)), (6, .inl (v6))]) (st2 := [.inl (3), .inl (v6), .inr (.inr (some (331)))]) rfl ?_
      refine sd_b_dz (by decide) rfl rfl ?_
      refine sd_b_go 2 (pc2 := 86) (lv2 := [(0, .inr (.inr (some (331)))), (3, .inl (v3)), (4, .inl (v4)), (5, .inl (v5)), (6, .inl (v6))]) (st2 := [.inl (3), .inl (v6), .inl (sd_w (Int.tdiv v6 3)), .inr (.inr (some (331)))]) rfl ?_
      refine sd_b_mz (by decide) rfl ?_
      obtain ⟨r2, e2, h⟩ := sd_bnd h
      refine sd_b_call [.inr (.inr (some (331))), .inl (sd_w (Int.tdiv v6 3)), .inl (Int.tmod v6 3)] [] rfl rfl sd_i_X10_isRest rfl rfl (Nat.le_of_ble_eq_true rfl) (sd_rc_v sd_o_331) (m_X10_isRest (by omega) e2) ?_
      by_cases c3 : r2.1 = 0
      · rw [if_pos c3] at h
        refine sd_b_zf (c := .ne) rfl (decide_eq_false (not_not_intro c3)) (by decide) ?_
        refine sd_b_go 1 (pc2 := 103) (lv2 := [(0, .inr (.inr (some (331)))), (3, .inl (v3)), (4, .inl (v4)), (5, .inl (v5)), (6, .inl (v6))]) (st2 := []) rfl ?_
        refine sd_b_wk [(0, .inr (.inr (some (331)))), (3, .inl (v3)), (4, .inl (v4)), (5, .inl (v5)), (6, .inl (v6))] (List.forall_mem_cons.mpr ⟨rfl, (List.forall_mem_cons.mpr ⟨rfl, (List.forall_mem_cons.mpr ⟨rfl, (List.forall_mem_cons.mpr ⟨rfl, (List.forall_mem_cons.mpr ⟨rfl, (fun _ h0 => absurd h0 List.not_mem_nil)⟩)⟩)⟩)⟩)⟩) ?_
        exact t_X10_rests_103 hd (f_X10_rests_73 k109 n) k109 ih hk109 v3 v4 v5 v6 r2.2 _ h
      · rw [if_neg c3] at h
        refine sd_b_zt (c := .ne) (tgt := 96) rfl (decide_eq_true c3) (by decide) ?_
        refine sd_b_go 3 (pc2 := 103) (lv2 := [(4, .inl (sd_w (v4 + 1))), (5, .inl (v6)), (0, .inr (.inr (some (331)))), (3, .inl (v3)), (6, .inl (v6))]) (st2 := []) rfl ?_
        refine sd_b_wk [(0, .inr (.inr (some (331)))), (3, .inl (v3)), (4, .inl (sd_w (v4 + 1))), (5, .inl (v6)), (6, .inl (v6))] (List.forall_mem_cons.mpr ⟨rfl, (List.forall_mem_cons.mpr ⟨rfl, (List.forall_mem_cons.mpr ⟨rfl, (List.forall_mem_cons.mpr ⟨rfl, (List.forall_mem_cons.mpr ⟨rfl, (fun _ h0 => absurd h0 List.not_mem_nil)⟩)⟩)⟩)⟩)⟩) ?_
        exact t_X10_rests_103 hd (f_X10_rests_73 k109 n) k109 ih hk109 v3 (sd_w (v4 + 1)) v6 v6 r2.2 _ h
def f_X10_rests_109 (v3 : Int) (v4 : Int) (v5 : Int) (M : sd_M) : Option (Int × sd_M) := if v3 = 0 then (some (v4, M)) else (if 0 ≤ v5 then (if v3 = 1 then (some (sd_w (Int.tdiv v5 3), M)) else (some (Int.tmod v5 3, M))) else (some ((-2), M)))
set_option maxRecDepth 4000 in
theorem t_X10_rests_109 {X : Nat → List sd_V → List sd_E → sd_A → Prop} {d : Nat} (hd : 7 ≤ d) (v3 : Int) (v4 : Int) (v5 : Int) (M : sd_M) (Rr : Int × sd_M) (h : f_X10_rests_109 v3 v4 v5 M = some Rr) : sd_B X d sd_q_X10_rests 109 [(3, .inl (v3)), (4, .inl (v4)), (5, .inl (v5))] [] M (some (.inl Rr.1), sd_rp Rr.2, 0, 0) := by
  unfold f_X10_rests_109 at h
  refine sd_b_go 1 (pc2 := 110) (lv2 := [(3, .inl (v3)), (4, .inl (v4)), (5, .inl (v5))]) (st2 := [.inl (v3)]) rfl ?_
  by_cases c1 : v3 = 0
  · rw [if_pos c1] at h
    refine sd_b_zf (c := .ne) rfl (decide_eq_false (not_not_intro c1)) (by decide) ?_
    refine sd_b_go 1 (pc2 := 115) (lv2 := [(3, .inl (v3)), (4, .inl (v4)), (5, .inl (v5))]) (st2 := [.inl (v4)]) rfl ?_
    cases h
    exact sd_b_rt rfl rfl rfl
  · rw [if_neg c1] at h
    refine sd_b_zt (c := .ne) (tgt := 116) rfl (decide_eq_true c1) (by decide) ?_
    refine sd_b_go 1 (pc2 := 118) (lv2 := [(3, .inl (v3)), (4, .inl (v4)), (5, .inl (v5))]) (st2 := [.inl (v5)]) rfl ?_
    by_cases c2 : 0 ≤ v5
    · rw [if_pos c2] at h
      refine sd_b_zt (c := .ge) (tgt := 126) rfl (decide_eq_true c2) (by decide) ?_
      refine sd_b_go 2 (pc2 := 128) (lv2 := [(3, .inl (v3)), (4, .inl (v4)), (5, .inl (v5))]) (st2 := [.inl (1), .inl (v3)]) rfl ?_
      by_cases c3 : v3 = 1
      · rw [if_pos c3] at h
        refine sd_b_cf (c := .ne) rfl (decide_eq_false (not_not_intro c3)) (by decide) ?_
        refine sd_b_go 2 (pc2 := 134) (lv2 := [(3, .inl (v3)), (4, .inl (v4)), (5, .inl (v5))]) (st2 := [.inl (3), .inl (v5)]) rfl ?_
        refine sd_b_dz (by decide) rfl rfl ?_
        refine sd_b_go 1 (pc2 := 142) (lv2 := [(3, .inl (v3)), (4, .inl (v4)), (5, .inl (v5))]) (st2 := [.inl (sd_w (Int.tdiv v5 3))]) rfl ?_
        cases h
        exact sd_b_rt rfl rfl rfl
      · rw [if_neg c3] at h
        refine sd_b_ct (c := .ne) (tgt := 138) rfl (decide_eq_true c3) (by decide) ?_
        refine sd_b_go 2 (pc2 := 141) (lv2 := [(3, .inl (v3)), (4, .inl (v4)), (5, .inl (v5))]) (st2 := [.inl (3), .inl (v5)]) rfl ?_
        refine sd_b_mz (by decide) rfl ?_
        cases h
        exact sd_b_rt rfl rfl rfl
    · rw [if_neg c2] at h
      refine sd_b_zf (c := .ge) rfl (decide_eq_false c2) (by decide) ?_
      refine sd_b_go 2 (pc2 := 142) (lv2 := [(3, .inl (v3)), (4, .inl (v4)), (5, .inl (v5))]) (st2 := [.inl ((-2))]) rfl ?_
      cases h
      exact sd_b_rt rfl rfl rfl
def f_X10_rests_63 (v3 : Int) (M : sd_M) : Option (Int × sd_M) := f_X10_rests_73 (f_X10_rests_109) 4000 v3 0 ((-1)) 8 M
set_option maxRecDepth 4000 in
theorem t_X10_rests_63 {X : Nat → List sd_V → List sd_E → sd_A → Prop} {d : Nat} (hd : 7 ≤ d) (v3 : Int) (M : sd_M) (Rr : Int × sd_M) (h : f_X10_rests_63 v3 M = some Rr) : sd_B X d sd_q_X10_rests 63 [(0, .inr (.inr (some (331)))), (3, .inl (v3))] [] M (some (.inl Rr.1), sd_rp Rr.2, 0, 0) := by
  unfold f_X10_rests_63 at h
  refine sd_b_go 6 (pc2 := 73) (lv2 := [(6, .inl (8)), (5, .inl ((-1))), (4, .inl (0)), (0, .inr (.inr (some (331)))), (3, .inl (v3))]) (st2 := []) rfl ?_
  refine sd_b_wk [(0, .inr (.inr (some (331)))), (3, .inl (v3)), (4, .inl (0)), (5, .inl ((-1))), (6, .inl (8))] (List.forall_mem_cons.mpr ⟨rfl, (List.forall_mem_cons.mpr ⟨rfl, (List.forall_mem_cons.mpr ⟨rfl, (List.forall_mem_cons.mpr ⟨rfl, (List.forall_mem_cons.mpr ⟨rfl, (fun _ h0 => absurd h0 List.not_mem_nil)⟩)⟩)⟩)⟩)⟩) ?_
  exact t_X10_rests_73 hd (f_X10_rests_109) (t_X10_rests_109 hd) 4000 v3 0 ((-1)) 8 M _ h
def f_X10_rests (p1 : Int) (p2 : Int) (p3 : Int) (M : sd_M) : Option (Int × sd_M) := (f_X10_isLine p1 M).bind fun r1 => if r1.1 = 0 then (some ((-1), r1.2)) else ((f_X10_isLine p2 r1.2).bind fun r3 => if r3.1 = 0 then (some ((-1), r3.2)) else (if p1 = p2 then (some ((-1), r3.2)) else ((f_X10_in p3 0 2 r3.2).bind fun r6 => if r6.1 = 0 then (some ((-1), r6.2)) else ((f_X10_keeps r6.2).bind fun r8 => f_X10_rests_42 (f_X10_rests_63) 4000 p1 p2 p3 0 r8.2))))
set_option maxRecDepth 4000 in
theorem t_X10_rests {X : Nat → List sd_V → List sd_E → sd_A → Prop} {d : Nat} (hd : 7 ≤ d) (p1 : Int) (p2 : Int) (p3 : Int) (M : sd_M) (Rr : Int × sd_M) (h : f_X10_rests p1 p2 p3 M = some Rr) : sd_B X d sd_q_X10_rests 0 [(0, .inr (.inr (some (331)))), (1, .inl (p1)), (2, .inl (p2)), (3, .inl (p3))] [] M (some (.inl Rr.1), sd_rp Rr.2, 0, 0) := by
  unfold f_X10_rests at h
  refine sd_b_go 2 (pc2 := 2) (lv2 := [(0, .inr (.inr (some (331)))), (1, .inl (p1)), (2, .inl (p2)), (3, .inl (p3))]) (st2 := [.inl (p1), .inr (.inr (some (331)))]) rfl ?_
  obtain ⟨r1, e1, h⟩ := sd_bnd h
  refine sd_b_call [.inr (.inr (some (331))), .inl (p1)] [] rfl rfl sd_i_X10_isLine rfl rfl (Nat.le_of_ble_eq_true rfl) (sd_rc_v sd_o_331) (m_X10_isLine (by omega) e1) ?_
  by_cases c2 : r1.1 = 0
  · rw [if_pos c2] at h
    refine sd_b_zt (c := .eq) (tgt := 33) rfl (decide_eq_true c2) (by decide) ?_
    refine sd_b_go 1 (pc2 := 34) (lv2 := [(0, .inr (.inr (some (331)))), (1, .inl (p1)), (2, .inl (p2)), (3, .inl (p3))]) (st2 := [.inl ((-1))]) rfl ?_
    cases h
    exact sd_b_rt rfl rfl rfl
  · rw [if_neg c2] at h
    refine sd_b_zf (c := .eq) rfl (decide_eq_false c2) (by decide) ?_
    refine sd_b_go 2 (pc2 := 10) (lv2 := [(0, .inr (.inr (some (331)))), (1, .inl (p1)), (2, .inl (p2)), (3, .inl (p3))]) (st2 := [.inl (p2), .inr (.inr (some (331)))]) rfl ?_
    obtain ⟨r3, e3, h⟩ := sd_bnd h
    refine sd_b_call [.inr (.inr (some (331))), .inl (p2)] [] rfl rfl sd_i_X10_isLine rfl rfl (Nat.le_of_ble_eq_true rfl) (sd_rc_v sd_o_331) (m_X10_isLine (by omega) e3) ?_
    by_cases c4 : r3.1 = 0
    · rw [if_pos c4] at h
      refine sd_b_zt (c := .eq) (tgt := 33) rfl (decide_eq_true c4) (by decide) ?_
      refine sd_b_go 1 (pc2 := 34) (lv2 := [(0, .inr (.inr (some (331)))), (1, .inl (p1)), (2, .inl (p2)), (3, .inl (p3))]) (st2 := [.inl ((-1))]) rfl ?_
      cases h
      exact sd_b_rt rfl rfl rfl
    · rw [if_neg c4] at h
      refine sd_b_zf (c := .eq) rfl (decide_eq_false c4) (by decide) ?_
      refine sd_b_go 2 (pc2 := 18) (lv2 := [(0, .inr (.inr (some (331)))), (1, .inl (p1)), (2, .inl (p2)), (3, .inl (p3))]) (st2 := [.inl (p2), .inl (p1)]) rfl ?_
      by_cases c5 : p1 = p2
      · rw [if_pos c5] at h
        refine sd_b_ct (c := .eq) (tgt := 33) rfl (decide_eq_true c5) (by decide) ?_
        refine sd_b_go 1 (pc2 := 34) (lv2 := [(0, .inr (.inr (some (331)))), (1, .inl (p1)), (2, .inl (p2)), (3, .inl (p3))]) (st2 := [.inl ((-1))]) rfl ?_
        cases h
        exact sd_b_rt rfl rfl rfl
      · rw [if_neg c5] at h
        refine sd_b_cf (c := .eq) rfl (decide_eq_false c5) (by decide) ?_
        refine sd_b_go 4 (pc2 := 27) (lv2 := [(0, .inr (.inr (some (331)))), (1, .inl (p1)), (2, .inl (p2)), (3, .inl (p3))]) (st2 := [.inr (.inl (2)), .inr (.inl (0)), .inr (.inl (p3))]) rfl ?_
        obtain ⟨r6, e6, h⟩ := sd_bnd h
        refine sd_b_call [.inr (.inl (p3)), .inr (.inl (0)), .inr (.inl (2))] [] rfl rfl sd_i_X10_in rfl rfl (Nat.le_of_ble_eq_true rfl) rfl (m_X10_in (by omega) e6) ?_
        by_cases c7 : r6.1 = 0
        · rw [if_pos c7] at h
          refine sd_b_zf (c := .ne) rfl (decide_eq_false (not_not_intro c7)) (by decide) ?_
          refine sd_b_go 1 (pc2 := 34) (lv2 := [(0, .inr (.inr (some (331)))), (1, .inl (p1)), (2, .inl (p2)), (3, .inl (p3))]) (st2 := [.inl ((-1))]) rfl ?_
          cases h
          exact sd_b_rt rfl rfl rfl
        · rw [if_neg c7] at h
          refine sd_b_zt (c := .ne) (tgt := 35) rfl (decide_eq_true c7) (by decide) ?_
          refine sd_b_go 1 (pc2 := 36) (lv2 := [(0, .inr (.inr (some (331)))), (1, .inl (p1)), (2, .inl (p2)), (3, .inl (p3))]) (st2 := [.inr (.inr (some (331)))]) rfl ?_
          obtain ⟨r8, e8, h⟩ := sd_bnd h
          refine sd_b_call [.inr (.inr (some (331)))] [] rfl rfl sd_i_X10_keeps rfl rfl (Nat.le_of_ble_eq_true rfl) (sd_rc_v sd_o_331) (m_X10_keeps (by omega) e8) ?_
          refine sd_b_go 2 (pc2 := 42) (lv2 := [(4, .inl (0)), (0, .inr (.inr (some (331)))), (1, .inl (p1)), (2, .inl (p2)), (3, .inl (p3))]) (st2 := []) rfl ?_
          refine sd_b_wk [(0, .inr (.inr (some (331)))), (1, .inl (p1)), (2, .inl (p2)), (3, .inl (p3)), (4, .inl (0))] (List.forall_mem_cons.mpr ⟨rfl, (List.forall_mem_cons.mpr ⟨rfl, (List.forall_mem_cons.mpr ⟨rfl, (List.forall_mem_cons.mpr ⟨rfl, (List.forall_mem_cons.mpr ⟨rfl, (fun _ h0 => absurd h0 List.not_mem_nil)⟩)⟩)⟩)⟩)⟩) ?_
          exact t_X10_rests_42 hd (f_X10_rests_63) (t_X10_rests_63 hd) 4000 p1 p2 p3 0 r8.2 _ h
theorem m_X10_rests {X : Nat → List sd_V → List sd_E → sd_A → Prop} {d : Nat} (hd : 8 ≤ d) {p1 : Int} {p2 : Int} {p3 : Int} {M : sd_M} {Rr : Int × sd_M} (h : f_X10_rests p1 p2 p3 M = some Rr) : sd_Cal X d 231 [.inr (.inr (some (331))), .inl (p1), .inl (p2), .inl (p3)] (sd_rp M) (some (.inl Rr.1), sd_rp Rr.2, 0, 0) := by
  obtain ⟨d, rfl⟩ : ∃ d2, d = d2 + 1 := ⟨d - 1, by omega⟩
  exact sd_cal_of sd_i_X10_rests (Nat.le_of_ble_eq_true rfl) (t_X10_rests (by omega) p1 p2 p3 M Rr h)
-- X10_pence
def sd_q_X10_pence : sd_MI := (yX10_pence, cX10_pence, 3, (some .int), 10, 2, sd_t_X10_pence)
set_option maxRecDepth 4000 in
theorem sd_i_X10_pence : sd_mL[232]? = some sd_q_X10_pence := rfl
def f_X10_pence (p1 : Int) (p2 : Int) (M : sd_M) : Option (Int × sd_M) := (f_X10_isLine p2 M).bind fun r1 => if r1.1 = 0 then (some ((-1), r1.2)) else ((f_X10_in p1 0 9999 r1.2).bind fun r3 => if r3.1 = 0 then (some ((-1), r3.2)) else ((f_X10_partsBySigned p1 r3.2).bind fun r5 => (f_X10_placeOf p2 r5.2).bind fun r6 => if 0 ≤ r6.1 ∧ r6.1 < 9 then (some ((r6.2) 343 r6.1.toNat, r6.2)) else none))
set_option maxRecDepth 4000 in
theorem t_X10_pence {X : Nat → List sd_V → List sd_E → sd_A → Prop} {d : Nat} (hd : 3 ≤ d) (p1 : Int) (p2 : Int) (M : sd_M) (Rr : Int × sd_M) (h : f_X10_pence p1 p2 M = some Rr) : sd_B X d sd_q_X10_pence 0 [(0, .inr (.inr (some (331)))), (1, .inl (p1)), (2, .inl (p2))] [] M (some (.inl Rr.1), sd_rp Rr.2, 0, 0) := by
  unfold f_X10_pence at h
  refine sd_b_go 2 (pc2 := 2) (lv2 := [(0, .inr (.inr (some (331)))), (1, .inl (p1)), (2, .inl (p2))]) (st2 := [.inl (p2), .inr (.inr (some (331)))]) rfl ?_
  obtain ⟨r1, e1, h⟩ := sd_bnd h
  refine sd_b_call [.inr (.inr (some (331))), .inl (p2)] [] rfl rfl sd_i_X10_isLine rfl rfl (Nat.le_of_ble_eq_true rfl) (sd_rc_v sd_o_331) (m_X10_isLine (by omega) e1) ?_
  by_cases c2 : r1.1 = 0
  · rw [if_pos c2] at h
    refine sd_b_zt (c := .eq) (tgt := 20) rfl (decide_eq_true c2) (by decide) ?_
    refine sd_b_go 1 (pc2 := 21) (lv2 := [(0, .inr (.inr (some (331)))), (1, .inl (p1)), (2, .inl (p2))]) (st2 := [.inl ((-1))]) rfl ?_
    cases h
    exact sd_b_rt rfl rfl rfl
  · rw [if_neg c2] at h
    refine sd_b_zf (c := .eq) rfl (decide_eq_false c2) (by decide) ?_
    refine sd_b_go 4 (pc2 := 14) (lv2 := [(0, .inr (.inr (some (331)))), (1, .inl (p1)), (2, .inl (p2))]) (st2 := [.inr (.inl (9999)), .inr (.inl (0)), .inr (.inl (p1))]) rfl ?_
    obtain ⟨r3, e3, h⟩ := sd_bnd h
    refine sd_b_call [.inr (.inl (p1)), .inr (.inl (0)), .inr (.inl (9999))] [] rfl rfl sd_i_X10_in rfl rfl (Nat.le_of_ble_eq_true rfl) rfl (m_X10_in (by omega) e3) ?_
    by_cases c4 : r3.1 = 0
    · rw [if_pos c4] at h
      refine sd_b_zf (c := .ne) rfl (decide_eq_false (not_not_intro c4)) (by decide) ?_
      refine sd_b_go 1 (pc2 := 21) (lv2 := [(0, .inr (.inr (some (331)))), (1, .inl (p1)), (2, .inl (p2))]) (st2 := [.inl ((-1))]) rfl ?_
      cases h
      exact sd_b_rt rfl rfl rfl
    · rw [if_neg c4] at h
      refine sd_b_zt (c := .ne) (tgt := 22) rfl (decide_eq_true c4) (by decide) ?_
      refine sd_b_go 2 (pc2 := 24) (lv2 := [(0, .inr (.inr (some (331)))), (1, .inl (p1)), (2, .inl (p2))]) (st2 := [.inl (p1), .inr (.inr (some (331)))]) rfl ?_
      obtain ⟨r5, e5, h⟩ := sd_bnd h
      refine sd_b_call [.inr (.inr (some (331))), .inl (p1)] [] rfl rfl sd_i_X10_partsBySigned rfl rfl (Nat.le_of_ble_eq_true rfl) (sd_rc_v sd_o_331) (m_X10_partsBySigned (by omega) e5) ?_
      refine sd_b_go 1 (pc2 := 28) (lv2 := [(0, .inr (.inr (some (331)))), (1, .inl (p1)), (2, .inl (p2))]) (st2 := [.inr (.inr (some (331)))]) rfl ?_
      refine sd_b_gr (k := 24) sd_o_331 rfl rfl rfl ?_
      refine sd_b_go 2 (pc2 := 33) (lv2 := [(0, .inr (.inr (some (331)))), (1, .inl (p1)), (2, .inl (p2))]) (st2 := [.inl (p2), .inr (.inr (some (331))), .inr (.inr (some (343)))]) rfl ?_
      obtain ⟨r6, e6, h⟩ := sd_bnd h
      refine sd_b_call [.inr (.inr (some (331))), .inl (p2)] [.inr (.inr (some (343)))] rfl rfl sd_i_X10_placeOf rfl rfl (Nat.le_of_ble_eq_true rfl) (sd_rc_v sd_o_331) (m_X10_placeOf (by omega) e6) ?_
      obtain ⟨g7, h⟩ := sd_if h
      refine sd_b_ai (sd_oa sd_o_331 (by decide) (off := 12) (List.mem_of_getElem? (i := 11) rfl)) g7 rfl ?_
      cases h
      exact sd_b_rt rfl rfl rfl
theorem m_X10_pence {X : Nat → List sd_V → List sd_E → sd_A → Prop} {d : Nat} (hd : 4 ≤ d) {p1 : Int} {p2 : Int} {M : sd_M} {Rr : Int × sd_M} (h : f_X10_pence p1 p2 M = some Rr) : sd_Cal X d 232 [.inr (.inr (some (331))), .inl (p1), .inl (p2)] (sd_rp M) (some (.inl Rr.1), sd_rp Rr.2, 0, 0) := by
  obtain ⟨d, rfl⟩ : ∃ d2, d = d2 + 1 := ⟨d - 1, by omega⟩
  exact sd_cal_of sd_i_X10_pence (Nat.le_of_ble_eq_true rfl) (t_X10_pence (by omega) p1 p2 M Rr h)
-- X10_note
def sd_q_X10_note : sd_MI := (yX10_note, cX10_note, 3, (some .int), 10, 2, sd_t_X10_note)
set_option maxRecDepth 4000 in
theorem sd_i_X10_note : sd_mL[233]? = some sd_q_X10_note := rfl
def f_X10_note_47 (v1 : Int) (v2 : Int) (M : sd_M) : Option (Int × sd_M) := if (M 341 127) = 10 then (some ((-2), M)) else (if 0 ≤ (sd_w (107 + (sd_w (2 * (M 341 127))))) ∧ (sd_w (107 + (sd_w (2 * (M 341 127))))) < 128 then (if 0 ≤ (sd_w ((sd_w (107 + (sd_w (2 * ((sd_s M 341 (sd_w (107 + (sd_w (2 * (M 341 127))))).toNat v1) 341 127))))) + 1)) ∧ (sd_w ((sd_w (107 + (sd_w (2 * ((sd_s M 341 (sd_w (107 + (sd_w (2 * (M 341 127))))).toNat v1) 341 127))))) + 1)) < 128 then (some ((sd_s (sd_s (sd_s M 341 (sd_w (107 + (sd_w (2 * (M 341 127))))).toNat v1) 341 (sd_w ((sd_w (107 + (sd_w (2 * ((sd_s M 341 (sd_w (107 + (sd_w (2 * (M 341 127))))).toNat v1) 341 127))))) + 1)).toNat v2) 341 127 (sd_w (((sd_s (sd_s M 341 (sd_w (107 + (sd_w (2 * (M 341 127))))).toNat v1) 341 (sd_w ((sd_w (107 + (sd_w (2 * ((sd_s M 341 (sd_w (107 + (sd_w (2 * (M 341 127))))).toNat v1) 341 127))))) + 1)).toNat v2) 341 127) + 1))) 341 127, sd_s (sd_s (sd_s M 341 (sd_w (107 + (sd_w (2 * (M 341 127))))).toNat v1) 341 (sd_w ((sd_w (107 + (sd_w (2 * ((sd_s M 341 (sd_w (107 + (sd_w (2 * (M 341 127))))).toNat v1) 341 127))))) + 1)).toNat v2) 341 127 (sd_w (((sd_s (sd_s M 341 (sd_w (107 + (sd_w (2 * (M 341 127))))).toNat v1) 341 (sd_w ((sd_w (107 + (sd_w (2 * ((sd_s M 341 (sd_w (107 + (sd_w (2 * (M 341 127))))).toNat v1) 341 127))))) + 1)).toNat v2) 341 127) + 1)))) else none) else none)
set_option maxRecDepth 4000 in
theorem t_X10_note_47 {X : Nat → List sd_V → List sd_E → sd_A → Prop} {d : Nat} (hd : 1 ≤ d) (v1 : Int) (v2 : Int) (M : sd_M) (Rr : Int × sd_M) (h : f_X10_note_47 v1 v2 M = some Rr) : sd_B X d sd_q_X10_note 47 [(0, .inr (.inr (some (331)))), (1, .inl (v1)), (2, .inl (v2))] [] M (some (.inl Rr.1), sd_rp Rr.2, 0, 0) := by
  unfold f_X10_note_47 at h
  refine sd_b_go 1 (pc2 := 48) (lv2 := [(0, .inr (.inr (some (331)))), (1, .inl (v1)), (2, .inl (v2))]) (st2 := [.inr (.inr (some (331)))]) rfl ?_
  refine sd_b_gr (k := 20) sd_o_331 rfl rfl rfl ?_
  refine sd_b_go 1 (pc2 := 53) (lv2 := [(0, .inr (.inr (some (331)))), (1, .inl (v1)), (2, .inl (v2))]) (st2 := [.inl (127), .inr (.inr (some (341)))]) rfl ?_
  refine sd_b_ai (i := 127) (sd_oa sd_o_331 (by decide) (off := 10) (List.mem_of_getElem? (i := 9) rfl)) (by decide) rfl ?_
  refine sd_b_go 1 (pc2 := 56) (lv2 := [(0, .inr (.inr (some (331)))), (1, .inl (v1)), (2, .inl (v2))]) (st2 := [.inl (10), .inl (M 341 127)]) rfl ?_
  by_cases c1 : (M 341 127) = 10
  · rw [if_pos c1] at h
    refine sd_b_cf (c := .ne) rfl (decide_eq_false (not_not_intro c1)) (by decide) ?_
    refine sd_b_go 1 (pc2 := 61) (lv2 := [(0, .inr (.inr (some (331)))), (1, .inl (v1)), (2, .inl (v2))]) (st2 := [.inl ((-2))]) rfl ?_
    cases h
    exact sd_b_rt rfl rfl rfl
  · rw [if_neg c1] at h
    refine sd_b_ct (c := .ne) (tgt := 62) rfl (decide_eq_true c1) (by decide) ?_
    refine sd_b_go 1 (pc2 := 63) (lv2 := [(0, .inr (.inr (some (331)))), (1, .inl (v1)), (2, .inl (v2))]) (st2 := [.inr (.inr (some (331)))]) rfl ?_
    refine sd_b_gr (k := 20) sd_o_331 rfl rfl rfl ?_
    refine sd_b_go 3 (pc2 := 70) (lv2 := [(0, .inr (.inr (some (331)))), (1, .inl (v1)), (2, .inl (v2))]) (st2 := [.inr (.inr (some (331))), .inl (2), .inl (107), .inr (.inr (some (341)))]) rfl ?_
    refine sd_b_gr (k := 20) sd_o_331 rfl rfl rfl ?_
    refine sd_b_go 1 (pc2 := 75) (lv2 := [(0, .inr (.inr (some (331)))), (1, .inl (v1)), (2, .inl (v2))]) (st2 := [.inl (127), .inr (.inr (some (341))), .inl (2), .inl (107), .inr (.inr (some (341)))]) rfl ?_
    refine sd_b_ai (i := 127) (sd_oa sd_o_331 (by decide) (off := 10) (List.mem_of_getElem? (i := 9) rfl)) (by decide) rfl ?_
    refine sd_b_go 3 (pc2 := 79) (lv2 := [(0, .inr (.inr (some (331)))), (1, .inl (v1)), (2, .inl (v2))]) (st2 := [.inl (v1), .inl (sd_w (107 + (sd_w (2 * (M 341 127))))), .inr (.inr (some (341)))]) rfl ?_
    obtain ⟨g2, h⟩ := sd_if h
    refine sd_b_si (sd_oa sd_o_331 (by decide) (off := 10) (List.mem_of_getElem? (i := 9) rfl)) g2 rfl ?_
    refine sd_b_go 1 (pc2 := 81) (lv2 := [(0, .inr (.inr (some (331)))), (1, .inl (v1)), (2, .inl (v2))]) (st2 := [.inr (.inr (some (331)))]) rfl ?_
    refine sd_b_gr (k := 20) sd_o_331 rfl rfl rfl ?_
    refine sd_b_go 3 (pc2 := 88) (lv2 := [(0, .inr (.inr (some (331)))), (1, .inl (v1)), (2, .inl (v2))]) (st2 := [.inr (.inr (some (331))), .inl (2), .inl (107), .inr (.inr (some (341)))]) rfl ?_
    refine sd_b_gr (k := 20) sd_o_331 rfl rfl rfl ?_
    refine sd_b_go 1 (pc2 := 93) (lv2 := [(0, .inr (.inr (some (331)))), (1, .inl (v1)), (2, .inl (v2))]) (st2 := [.inl (127), .inr (.inr (some (341))), .inl (2), .inl (107), .inr (.inr (some (341)))]) rfl ?_
    refine sd_b_ai (i := 127) (sd_oa sd_o_331 (by decide) (off := 10) (List.mem_of_getElem? (i := 9) rfl)) (by decide) rfl ?_
    refine sd_b_go 5 (pc2 := 99) (lv2 := [(0, .inr (.inr (some (331)))), (1, .inl (v1)), (2, .inl (v2))]) (st2 := [.inl (v2), .inl (sd_w ((sd_w (107 + (sd_w (2 * ((sd_s M 341 (sd_w (107 + (sd_w (2 * (M 341 127))))).toNat v1) 341 127))))) + 1)), .inr (.inr (some (341)))]) rfl ?_
    obtain ⟨g3, h⟩ := sd_if h
    refine sd_b_si (sd_oa sd_o_331 (by decide) (off := 10) (List.mem_of_getElem? (i := 9) rfl)) g3 rfl ?_
    refine sd_b_go 1 (pc2 := 101) (lv2 := [(0, .inr (.inr (some (331)))), (1, .inl (v1)), (2, .inl (v2))]) (st2 := [.inr (.inr (some (331)))]) rfl ?_
    refine sd_b_gr (k := 20) sd_o_331 rfl rfl rfl ?_
    refine sd_b_go 2 (pc2 := 107) (lv2 := [(0, .inr (.inr (some (331)))), (1, .inl (v1)), (2, .inl (v2))]) (st2 := [.inl (127), .inr (.inr (some (341))), .inl (127), .inr (.inr (some (341)))]) rfl ?_
    refine sd_b_ai (i := 127) (sd_oa sd_o_331 (by decide) (off := 10) (List.mem_of_getElem? (i := 9) rfl)) (by decide) rfl ?_
    refine sd_b_go 2 (pc2 := 110) (lv2 := [(0, .inr (.inr (some (331)))), (1, .inl (v1)), (2, .inl (v2))]) (st2 := [.inl (sd_w (((sd_s (sd_s M 341 (sd_w (107 + (sd_w (2 * (M 341 127))))).toNat v1) 341 (sd_w ((sd_w (107 + (sd_w (2 * ((sd_s M 341 (sd_w (107 + (sd_w (2 * (M 341 127))))).toNat v1) 341 127))))) + 1)).toNat v2) 341 127) + 1)), .inl (127), .inr (.inr (some (341)))]) rfl ?_
    refine sd_b_si (i := 127) (sd_oa sd_o_331 (by decide) (off := 10) (List.mem_of_getElem? (i := 9) rfl)) (by decide) rfl ?_
    refine sd_b_go 1 (pc2 := 112) (lv2 := [(0, .inr (.inr (some (331)))), (1, .inl (v1)), (2, .inl (v2))]) (st2 := [.inr (.inr (some (331)))]) rfl ?_
    refine sd_b_gr (k := 20) sd_o_331 rfl rfl rfl ?_
    refine sd_b_go 1 (pc2 := 117) (lv2 := [(0, .inr (.inr (some (331)))), (1, .inl (v1)), (2, .inl (v2))]) (st2 := [.inl (127), .inr (.inr (some (341)))]) rfl ?_
    refine sd_b_ai (i := 127) (sd_oa sd_o_331 (by decide) (off := 10) (List.mem_of_getElem? (i := 9) rfl)) (by decide) rfl ?_
    cases h
    exact sd_b_rt rfl rfl rfl
def f_X10_note (p1 : Int) (p2 : Int) (M : sd_M) : Option (Int × sd_M) := if p1 = ((-1)) then (some (0, sd_s M 341 127 0)) else ((f_X10_isSlip M).bind fun r2 => if r2.1 = 0 then (some ((-2), r2.2)) else ((f_X10_in p1 0 30 r2.2).bind fun r4 => if r4.1 = 0 then (some ((-2), r4.2)) else (if p2 = ((-1)) then (f_X10_note_47 p1 p2 r4.2) else ((f_X10_isOffer p2 r4.2).bind fun r7 => if r7.1 = 0 then (some ((-2), r7.2)) else (f_X10_note_47 p1 p2 r7.2)))))
set_option maxRecDepth 4000 in
theorem t_X10_note {X : Nat → List sd_V → List sd_E → sd_A → Prop} {d : Nat} (hd : 1 ≤ d) (p1 : Int) (p2 : Int) (M : sd_M) (Rr : Int × sd_M) (h : f_X10_note p1 p2 M = some Rr) : sd_B X d sd_q_X10_note 0 [(0, .inr (.inr (some (331)))), (1, .inl (p1)), (2, .inl (p2))] [] M (some (.inl Rr.1), sd_rp Rr.2, 0, 0) := by
  unfold f_X10_note at h
  refine sd_b_go 2 (pc2 := 2) (lv2 := [(0, .inr (.inr (some (331)))), (1, .inl (p1)), (2, .inl (p2))]) (st2 := [.inl ((-1)), .inl (p1)]) rfl ?_
  by_cases c1 : p1 = ((-1))
  · rw [if_pos c1] at h
    refine sd_b_cf (c := .ne) rfl (decide_eq_false (not_not_intro c1)) (by decide) ?_
    refine sd_b_go 1 (pc2 := 6) (lv2 := [(0, .inr (.inr (some (331)))), (1, .inl (p1)), (2, .inl (p2))]) (st2 := [.inr (.inr (some (331)))]) rfl ?_
    refine sd_b_gr (k := 20) sd_o_331 rfl rfl rfl ?_
    refine sd_b_go 2 (pc2 := 12) (lv2 := [(0, .inr (.inr (some (331)))), (1, .inl (p1)), (2, .inl (p2))]) (st2 := [.inl (0), .inl (127), .inr (.inr (some (341)))]) rfl ?_
    refine sd_b_si (i := 127) (sd_oa sd_o_331 (by decide) (off := 10) (List.mem_of_getElem? (i := 9) rfl)) (by decide) rfl ?_
    refine sd_b_go 1 (pc2 := 14) (lv2 := [(0, .inr (.inr (some (331)))), (1, .inl (p1)), (2, .inl (p2))]) (st2 := [.inl (0)]) rfl ?_
    cases h
    exact sd_b_rt rfl rfl rfl
  · rw [if_neg c1] at h
    refine sd_b_ct (c := .ne) (tgt := 15) rfl (decide_eq_true c1) (by decide) ?_
    refine sd_b_go 1 (pc2 := 16) (lv2 := [(0, .inr (.inr (some (331)))), (1, .inl (p1)), (2, .inl (p2))]) (st2 := [.inr (.inr (some (331)))]) rfl ?_
    obtain ⟨r2, e2, h⟩ := sd_bnd h
    refine sd_b_call [.inr (.inr (some (331)))] [] rfl rfl sd_i_X10_isSlip rfl rfl (Nat.le_of_ble_eq_true rfl) (sd_rc_v sd_o_331) (m_X10_isSlip (by omega) e2) ?_
    by_cases c3 : r2.1 = 0
    · rw [if_pos c3] at h
      refine sd_b_zt (c := .eq) (tgt := 59) rfl (decide_eq_true c3) (by decide) ?_
      refine sd_b_go 1 (pc2 := 61) (lv2 := [(0, .inr (.inr (some (331)))), (1, .inl (p1)), (2, .inl (p2))]) (st2 := [.inl ((-2))]) rfl ?_
      cases h
      exact sd_b_rt rfl rfl rfl
    · rw [if_neg c3] at h
      refine sd_b_zf (c := .eq) rfl (decide_eq_false c3) (by decide) ?_
      refine sd_b_go 4 (pc2 := 28) (lv2 := [(0, .inr (.inr (some (331)))), (1, .inl (p1)), (2, .inl (p2))]) (st2 := [.inr (.inl (30)), .inr (.inl (0)), .inr (.inl (p1))]) rfl ?_
      obtain ⟨r4, e4, h⟩ := sd_bnd h
      refine sd_b_call [.inr (.inl (p1)), .inr (.inl (0)), .inr (.inl (30))] [] rfl rfl sd_i_X10_in rfl rfl (Nat.le_of_ble_eq_true rfl) rfl (m_X10_in (by omega) e4) ?_
      by_cases c5 : r4.1 = 0
      · rw [if_pos c5] at h
        refine sd_b_zt (c := .eq) (tgt := 59) rfl (decide_eq_true c5) (by decide) ?_
        refine sd_b_go 1 (pc2 := 61) (lv2 := [(0, .inr (.inr (some (331)))), (1, .inl (p1)), (2, .inl (p2))]) (st2 := [.inl ((-2))]) rfl ?_
        cases h
        exact sd_b_rt rfl rfl rfl
      · rw [if_neg c5] at h
        refine sd_b_zf (c := .eq) rfl (decide_eq_false c5) (by decide) ?_
        refine sd_b_go 2 (pc2 := 36) (lv2 := [(0, .inr (.inr (some (331)))), (1, .inl (p1)), (2, .inl (p2))]) (st2 := [.inl ((-1)), .inl (p2)]) rfl ?_
        by_cases c6 : p2 = ((-1))
        · rw [if_pos c6] at h
          refine sd_b_ct (c := .eq) (tgt := 47) rfl (decide_eq_true c6) (by decide) ?_
          refine sd_b_wk [(0, .inr (.inr (some (331)))), (1, .inl (p1)), (2, .inl (p2))] (List.forall_mem_cons.mpr ⟨rfl, (List.forall_mem_cons.mpr ⟨rfl, (List.forall_mem_cons.mpr ⟨rfl, (fun _ h0 => absurd h0 List.not_mem_nil)⟩)⟩)⟩) ?_
          exact t_X10_note_47 hd p1 p2 r4.2 _ h
        · rw [if_neg c6] at h
          refine sd_b_cf (c := .eq) rfl (decide_eq_false c6) (by decide) ?_
          refine sd_b_go 2 (pc2 := 41) (lv2 := [(0, .inr (.inr (some (331)))), (1, .inl (p1)), (2, .inl (p2))]) (st2 := [.inl (p2), .inr (.inr (some (331)))]) rfl ?_
          obtain ⟨r7, e7, h⟩ := sd_bnd h
          refine sd_b_call [.inr (.inr (some (331))), .inl (p2)] [] rfl rfl sd_i_X10_isOffer rfl rfl (Nat.le_of_ble_eq_true rfl) (sd_rc_v sd_o_331) (m_X10_isOffer (by omega) e7) ?_
          by_cases c8 : r7.1 = 0
          · rw [if_pos c8] at h
            refine sd_b_zt (c := .eq) (tgt := 59) rfl (decide_eq_true c8) (by decide) ?_
            refine sd_b_go 1 (pc2 := 61) (lv2 := [(0, .inr (.inr (some (331)))), (1, .inl (p1)), (2, .inl (p2))]) (st2 := [.inl ((-2))]) rfl ?_
            cases h
            exact sd_b_rt rfl rfl rfl
          · rw [if_neg c8] at h
            refine sd_b_zf (c := .eq) rfl (decide_eq_false c8) (by decide) ?_
            refine sd_b_wk [(0, .inr (.inr (some (331)))), (1, .inl (p1)), (2, .inl (p2))] (List.forall_mem_cons.mpr ⟨rfl, (List.forall_mem_cons.mpr ⟨rfl, (List.forall_mem_cons.mpr ⟨rfl, (fun _ h0 => absurd h0 List.not_mem_nil)⟩)⟩)⟩) ?_
            exact t_X10_note_47 hd p1 p2 r7.2 _ h
theorem m_X10_note {X : Nat → List sd_V → List sd_E → sd_A → Prop} {d : Nat} (hd : 2 ≤ d) {p1 : Int} {p2 : Int} {M : sd_M} {Rr : Int × sd_M} (h : f_X10_note p1 p2 M = some Rr) : sd_Cal X d 233 [.inr (.inr (some (331))), .inl (p1), .inl (p2)] (sd_rp M) (some (.inl Rr.1), sd_rp Rr.2, 0, 0) := by
  obtain ⟨d, rfl⟩ : ∃ d2, d = d2 + 1 := ⟨d - 1, by omega⟩
  exact sd_cal_of sd_i_X10_note (Nat.le_of_ble_eq_true rfl) (t_X10_note (by omega) p1 p2 M Rr h)
-- X10_areNotesSo
def sd_q_X10_areNotesSo : sd_MI := (yX10_areNotesSo, cX10_areNotesSo, 4, (some .boolean), 10, 2, sd_t_X10_areNotesSo)
set_option maxRecDepth 4000 in
theorem sd_i_X10_areNotesSo : sd_mL[234]? = some sd_q_X10_areNotesSo := rfl
def f_X10_areNotesSo_45 (k2 : Int → Int → Int → sd_M → Option (Int × sd_M)) (v1 : Int) (v2 : Int) (v3 : Int) (M : sd_M) : Option (Int × sd_M) := k2 v1 v2 (sd_w (v3 + 2)) M
set_option maxRecDepth 4000 in
theorem t_X10_areNotesSo_45 {X : Nat → List sd_V → List sd_E → sd_A → Prop} {d : Nat} (hd : 0 ≤ d) (k2 : Int → Int → Int → sd_M → Option (Int × sd_M)) (hk2 : ∀ (v1 : Int) (v2 : Int) (v3 : Int) (M : sd_M) (Rr : Int × sd_M), k2 v1 v2 v3 M = some Rr → sd_B X d sd_q_X10_areNotesSo 2 [(0, .inr (.inr (some (331)))), (1, .inl (v1)), (2, .inl (v2)), (3, .inl (v3))] [] M (some (.inl Rr.1), sd_rp Rr.2, 0, 0)) (v1 : Int) (v2 : Int) (v3 : Int) (M : sd_M) (Rr : Int × sd_M) (h : f_X10_areNotesSo_45 k2 v1 v2 v3 M = some Rr) : sd_B X d sd_q_X10_areNotesSo 45 [(0, .inr (.inr (some (331)))), (1, .inl (v1)), (2, .inl (v2)), (3, .inl (v3))] [] M (some (.inl Rr.1), sd_rp Rr.2, 0, 0) := by
  unfold f_X10_areNotesSo_45 at h
  refine sd_b_go 2 (pc2 := 2) (lv2 := [(3, .inl (sd_w (v3 + 2))), (0, .inr (.inr (some (331)))), (1, .inl (v1)), (2, .inl (v2))]) (st2 := []) rfl ?_
  refine sd_b_wk [(0, .inr (.inr (some (331)))), (1, .inl (v1)), (2, .inl (v2)), (3, .inl (sd_w (v3 + 2)))] (List.forall_mem_cons.mpr ⟨rfl, (List.forall_mem_cons.mpr ⟨rfl, (List.forall_mem_cons.mpr ⟨rfl, (List.forall_mem_cons.mpr ⟨rfl, (fun _ h0 => absurd h0 List.not_mem_nil)⟩)⟩)⟩)⟩) ?_
  exact hk2 v1 v2 (sd_w (v3 + 2)) M _ h
def f_X10_areNotesSo_2 : Nat → Int → Int → Int → sd_M → Option (Int × sd_M)
  | 0, _, _, _, _ => none
  | n + 1, v1, v2, v3, M => if (sd_w (2 * (M 341 127))) ≤ v3 then (some (1, M)) else (if 0 ≤ (sd_w (107 + v3)) ∧ (sd_w (107 + v3)) < 128 then (if (M 341 (sd_w (107 + v3)).toNat) = v1 then (if 0 ≤ (sd_w ((sd_w (107 + v3)) + 1)) ∧ (sd_w ((sd_w (107 + v3)) + 1)) < 128 then (if v2 = (M 341 (sd_w ((sd_w (107 + v3)) + 1)).toNat) then (f_X10_areNotesSo_45 (f_X10_areNotesSo_2 n) v1 v2 v3 M) else (some (0, M))) else none) else (f_X10_areNotesSo_45 (f_X10_areNotesSo_2 n) v1 v2 v3 M)) else none)
set_option maxRecDepth 4000 in
theorem t_X10_areNotesSo_2 {X : Nat → List sd_V → List sd_E → sd_A → Prop} {d : Nat} (hd : 0 ≤ d) : ∀ (n : Nat) (v1 : Int) (v2 : Int) (v3 : Int) (M : sd_M) (Rr : Int × sd_M), f_X10_areNotesSo_2 n v1 v2 v3 M = some Rr → sd_B X d sd_q_X10_areNotesSo 2 [(0, .inr (.inr (some (331)))), (1, .inl (v1)), (2, .inl (v2)), (3, .inl (v3))] [] M (some (.inl Rr.1), sd_rp Rr.2, 0, 0) := by
  intro n
  induction n with
  | zero => intro v1 v2 v3 M Rr h; cases h
  | succ n ih =>
    intro v1 v2 v3 M Rr h
    rw [f_X10_areNotesSo_2] at h
    refine sd_b_go 3 (pc2 := 5) (lv2 := [(0, .inr (.inr (some (331)))), (1, .inl (v1)), (2, .inl (v2)), (3, .inl (v3))]) (st2 := [.inr (.inr (some (331))), .inl (2), .inl (v3)]) rfl ?_
    refine sd_b_gr (k := 20) sd_o_331 rfl rfl rfl ?_
    refine sd_b_go 1 (pc2 := 10) (lv2 := [(0, .inr (.inr (some (331)))), (1, .inl (v1)), (2, .inl (v2)), (3, .inl (v3))]) (st2 := [.inl (127), .inr (.inr (some (341))), .inl (2), .inl (v3)]) rfl ?_
    refine sd_b_ai (i := 127) (sd_oa sd_o_331 (by decide) (off := 10) (List.mem_of_getElem? (i := 9) rfl)) (by decide) rfl ?_
    refine sd_b_go 1 (pc2 := 12) (lv2 := [(0, .inr (.inr (some (331)))), (1, .inl (v1)), (2, .inl (v2)), (3, .inl (v3))]) (st2 := [.inl (sd_w (2 * (M 341 127))), .inl (v3)]) rfl ?_
    by_cases c1 : (sd_w (2 * (M 341 127))) ≤ v3
    · rw [if_pos c1] at h
      refine sd_b_ct (c := .ge) (tgt := 51) rfl (decide_eq_true c1) (by decide) ?_
      refine sd_b_go 1 (pc2 := 52) (lv2 := [(0, .inr (.inr (some (331)))), (1, .inl (v1)), (2, .inl (v2)), (3, .inl (v3))]) (st2 := [.inl (1)]) rfl ?_
      cases h
      exact sd_b_rt rfl rfl rfl
    · rw [if_neg c1] at h
      refine sd_b_cf (c := .ge) rfl (decide_eq_false c1) (by decide) ?_
      refine sd_b_go 1 (pc2 := 16) (lv2 := [(0, .inr (.inr (some (331)))), (1, .inl (v1)), (2, .inl (v2)), (3, .inl (v3))]) (st2 := [.inr (.inr (some (331)))]) rfl ?_
      refine sd_b_gr (k := 20) sd_o_331 rfl rfl rfl ?_
      refine sd_b_go 3 (pc2 := 23) (lv2 := [(0, .inr (.inr (some (331)))), (1, .inl (v1)), (2, .inl (v2)), (3, .inl (v3))]) (st2 := [.inl (sd_w (107 + v3)), .inr (.inr (some (341)))]) rfl ?_
      obtain ⟨g2, h⟩ := sd_if h
      refine sd_b_ai (sd_oa sd_o_331 (by decide) (off := 10) (List.mem_of_getElem? (i := 9) rfl)) g2 rfl ?_
      refine sd_b_go 1 (pc2 := 25) (lv2 := [(0, .inr (.inr (some (331)))), (1, .inl (v1)), (2, .inl (v2)), (3, .inl (v3))]) (st2 := [.inl (v1), .inl (M 341 (sd_w (107 + v3)).toNat)]) rfl ?_
      by_cases c3 : (M 341 (sd_w (107 + v3)).toNat) = v1
      · rw [if_pos c3] at h
        refine sd_b_cf (c := .ne) rfl (decide_eq_false (not_not_intro c3)) (by decide) ?_
        refine sd_b_go 2 (pc2 := 30) (lv2 := [(0, .inr (.inr (some (331)))), (1, .inl (v1)), (2, .inl (v2)), (3, .inl (v3))]) (st2 := [.inr (.inr (some (331))), .inl (v2)]) rfl ?_
        refine sd_b_gr (k := 20) sd_o_331 rfl rfl rfl ?_
        refine sd_b_go 5 (pc2 := 39) (lv2 := [(0, .inr (.inr (some (331)))), (1, .inl (v1)), (2, .inl (v2)), (3, .inl (v3))]) (st2 := [.inl (sd_w ((sd_w (107 + v3)) + 1)), .inr (.inr (some (341))), .inl (v2)]) rfl ?_
        obtain ⟨g4, h⟩ := sd_if h
        refine sd_b_ai (sd_oa sd_o_331 (by decide) (off := 10) (List.mem_of_getElem? (i := 9) rfl)) g4 rfl ?_
        by_cases c5 : v2 = (M 341 (sd_w ((sd_w (107 + v3)) + 1)).toNat)
        · rw [if_pos c5] at h
          refine sd_b_ct (c := .eq) (tgt := 45) rfl (decide_eq_true c5) (by decide) ?_
          refine sd_b_wk [(0, .inr (.inr (some (331)))), (1, .inl (v1)), (2, .inl (v2)), (3, .inl (v3))] (List.forall_mem_cons.mpr ⟨rfl, (List.forall_mem_cons.mpr ⟨rfl, (List.forall_mem_cons.mpr ⟨rfl, (List.forall_mem_cons.mpr ⟨rfl, (fun _ h0 => absurd h0 List.not_mem_nil)⟩)⟩)⟩)⟩) ?_
          exact t_X10_areNotesSo_45 hd (f_X10_areNotesSo_2 n) ih v1 v2 v3 M _ h
        · rw [if_neg c5] at h
          refine sd_b_cf (c := .eq) rfl (decide_eq_false c5) (by decide) ?_
          refine sd_b_go 1 (pc2 := 44) (lv2 := [(0, .inr (.inr (some (331)))), (1, .inl (v1)), (2, .inl (v2)), (3, .inl (v3))]) (st2 := [.inl (0)]) rfl ?_
          cases h
          exact sd_b_rt rfl rfl rfl
      · rw [if_neg c3] at h
        refine sd_b_ct (c := .ne) (tgt := 45) rfl (decide_eq_true c3) (by decide) ?_
        refine sd_b_wk [(0, .inr (.inr (some (331)))), (1, .inl (v1)), (2, .inl (v2)), (3, .inl (v3))] (List.forall_mem_cons.mpr ⟨rfl, (List.forall_mem_cons.mpr ⟨rfl, (List.forall_mem_cons.mpr ⟨rfl, (List.forall_mem_cons.mpr ⟨rfl, (fun _ h0 => absurd h0 List.not_mem_nil)⟩)⟩)⟩)⟩) ?_
        exact t_X10_areNotesSo_45 hd (f_X10_areNotesSo_2 n) ih v1 v2 v3 M _ h
def f_X10_areNotesSo (p1 : Int) (p2 : Int) (M : sd_M) : Option (Int × sd_M) := f_X10_areNotesSo_2 4000 p1 p2 0 M
set_option maxRecDepth 4000 in
theorem t_X10_areNotesSo {X : Nat → List sd_V → List sd_E → sd_A → Prop} {d : Nat} (hd : 0 ≤ d) (p1 : Int) (p2 : Int) (M : sd_M) (Rr : Int × sd_M) (h : f_X10_areNotesSo p1 p2 M = some Rr) : sd_B X d sd_q_X10_areNotesSo 0 [(0, .inr (.inr (some (331)))), (1, .inl (p1)), (2, .inl (p2))] [] M (some (.inl Rr.1), sd_rp Rr.2, 0, 0) := by
  unfold f_X10_areNotesSo at h
  refine sd_b_go 2 (pc2 := 2) (lv2 := [(3, .inl (0)), (0, .inr (.inr (some (331)))), (1, .inl (p1)), (2, .inl (p2))]) (st2 := []) rfl ?_
  refine sd_b_wk [(0, .inr (.inr (some (331)))), (1, .inl (p1)), (2, .inl (p2)), (3, .inl (0))] (List.forall_mem_cons.mpr ⟨rfl, (List.forall_mem_cons.mpr ⟨rfl, (List.forall_mem_cons.mpr ⟨rfl, (List.forall_mem_cons.mpr ⟨rfl, (fun _ h0 => absurd h0 List.not_mem_nil)⟩)⟩)⟩)⟩) ?_
  exact t_X10_areNotesSo_2 hd 4000 p1 p2 0 M _ h
theorem m_X10_areNotesSo {X : Nat → List sd_V → List sd_E → sd_A → Prop} {d : Nat} (hd : 1 ≤ d) {p1 : Int} {p2 : Int} {M : sd_M} {Rr : Int × sd_M} (h : f_X10_areNotesSo p1 p2 M = some Rr) : sd_Cal X d 234 [.inr (.inr (some (331))), .inl (p1), .inl (p2)] (sd_rp M) (some (.inl Rr.1), sd_rp Rr.2, 0, 0) := by
  obtain ⟨d, rfl⟩ : ∃ d2, d = d2 + 1 := ⟨d - 1, by omega⟩
  exact sd_cal_of sd_i_X10_areNotesSo (Nat.le_of_ble_eq_true rfl) (t_X10_areNotesSo (by omega) p1 p2 M Rr h)
-- X10_areAllSo
def sd_q_X10_areAllSo : sd_MI := (yX10_areAllSo, cX10_areAllSo, 5, (some .boolean), 10, 1, sd_t_X10_areAllSo)
set_option maxRecDepth 4000 in
theorem sd_i_X10_areAllSo : sd_mL[235]? = some sd_q_X10_areAllSo := rfl
def f_X10_areAllSo_39 (k8 : Int → Int → Int → sd_M → Option (Int × sd_M)) (v1 : Int) (v3 : Int) (v4 : Int) (s0 : Int) (M : sd_M) : Option (Int × sd_M) := if 0 ≤ (sd_w ((sd_w (31 * v1)) + v3)) ∧ (sd_w ((sd_w (31 * v1)) + v3)) < 217 then (k8 v1 s0 (sd_w (v3 + 1)) (sd_s M 352 (sd_w ((sd_w (31 * v1)) + v3)).toNat v4)) else none
set_option maxRecDepth 4000 in
theorem t_X10_areAllSo_39 {X : Nat → List sd_V → List sd_E → sd_A → Prop} {d : Nat} (hd : 7 ≤ d) (k8 : Int → Int → Int → sd_M → Option (Int × sd_M)) (hk8 : ∀ (v1 : Int) (v2 : Int) (v3 : Int) (M : sd_M) (Rr : Int × sd_M), k8 v1 v2 v3 M = some Rr → sd_B X d sd_q_X10_areAllSo 8 [(0, .inr (.inr (some (331)))), (1, .inl (v1)), (2, .inl (v2)), (3, .inl (v3))] [] M (some (.inl Rr.1), sd_rp Rr.2, 0, 0)) (v1 : Int) (v3 : Int) (v4 : Int) (s0 : Int) (M : sd_M) (Rr : Int × sd_M) (h : f_X10_areAllSo_39 k8 v1 v3 v4 s0 M = some Rr) : sd_B X d sd_q_X10_areAllSo 39 [(0, .inr (.inr (some (331)))), (1, .inl (v1)), (3, .inl (v3)), (4, .inl (v4))] [.inl (s0)] M (some (.inl Rr.1), sd_rp Rr.2, 0, 0) := by
  unfold f_X10_areAllSo_39 at h
  refine sd_b_go 2 (pc2 := 41) (lv2 := [(2, .inl (s0)), (0, .inr (.inr (some (331)))), (1, .inl (v1)), (3, .inl (v3)), (4, .inl (v4))]) (st2 := [.inr (.inr (some (331)))]) rfl ?_
  refine sd_b_gr (k := 37) sd_o_331 rfl rfl rfl ?_
  refine sd_b_go 6 (pc2 := 52) (lv2 := [(2, .inl (s0)), (0, .inr (.inr (some (331)))), (1, .inl (v1)), (3, .inl (v3)), (4, .inl (v4))]) (st2 := [.inl (v4), .inl (sd_w ((sd_w (31 * v1)) + v3)), .inr (.inr (some (352)))]) rfl ?_
  obtain ⟨g1, h⟩ := sd_if h
  refine sd_b_si (sd_oa sd_o_331 (by decide) (off := 21) (List.mem_of_getElem? (i := 20) rfl)) g1 rfl ?_
  refine sd_b_go 2 (pc2 := 8) (lv2 := [(3, .inl (sd_w (v3 + 1))), (2, .inl (s0)), (0, .inr (.inr (some (331)))), (1, .inl (v1)), (4, .inl (v4))]) (st2 := []) rfl ?_
  refine sd_b_wk [(0, .inr (.inr (some (331)))), (1, .inl (v1)), (2, .inl (s0)), (3, .inl (sd_w (v3 + 1)))] (List.forall_mem_cons.mpr ⟨rfl, (List.forall_mem_cons.mpr ⟨rfl, (List.forall_mem_cons.mpr ⟨rfl, (List.forall_mem_cons.mpr ⟨rfl, (fun _ h0 => absurd h0 List.not_mem_nil)⟩)⟩)⟩)⟩) ?_
  exact hk8 v1 s0 (sd_w (v3 + 1)) (sd_s M 352 (sd_w ((sd_w (31 * v1)) + v3)).toNat v4) _ h
def f_X10_areAllSo_38 (k8 : Int → Int → Int → sd_M → Option (Int × sd_M)) (v1 : Int) (v3 : Int) (v4 : Int) (M : sd_M) : Option (Int × sd_M) := f_X10_areAllSo_39 k8 v1 v3 v4 0 M
set_option maxRecDepth 4000 in
theorem t_X10_areAllSo_38 {X : Nat → List sd_V → List sd_E → sd_A → Prop} {d : Nat} (hd : 7 ≤ d) (k8 : Int → Int → Int → sd_M → Option (Int × sd_M)) (hk8 : ∀ (v1 : Int) (v2 : Int) (v3 : Int) (M : sd_M) (Rr : Int × sd_M), k8 v1 v2 v3 M = some Rr → sd_B X d sd_q_X10_areAllSo 8 [(0, .inr (.inr (some (331)))), (1, .inl (v1)), (2, .inl (v2)), (3, .inl (v3))] [] M (some (.inl Rr.1), sd_rp Rr.2, 0, 0)) (v1 : Int) (v3 : Int) (v4 : Int) (M : sd_M) (Rr : Int × sd_M) (h : f_X10_areAllSo_38 k8 v1 v3 v4 M = some Rr) : sd_B X d sd_q_X10_areAllSo 38 [(0, .inr (.inr (some (331)))), (1, .inl (v1)), (3, .inl (v3)), (4, .inl (v4))] [] M (some (.inl Rr.1), sd_rp Rr.2, 0, 0) := by
  unfold f_X10_areAllSo_38 at h
  refine sd_b_go 1 (pc2 := 39) (lv2 := [(0, .inr (.inr (some (331)))), (1, .inl (v1)), (3, .inl (v3)), (4, .inl (v4))]) (st2 := [.inl (0)]) rfl ?_
  refine sd_b_wk [(0, .inr (.inr (some (331)))), (1, .inl (v1)), (3, .inl (v3)), (4, .inl (v4))] (List.forall_mem_cons.mpr ⟨rfl, (List.forall_mem_cons.mpr ⟨rfl, (List.forall_mem_cons.mpr ⟨rfl, (List.forall_mem_cons.mpr ⟨rfl, (fun _ h0 => absurd h0 List.not_mem_nil)⟩)⟩)⟩)⟩) ?_
  exact t_X10_areAllSo_39 hd k8 hk8 v1 v3 v4 0 M _ h
def f_X10_areAllSo_8 : Nat → Int → Int → Int → sd_M → Option (Int × sd_M)
  | 0, _, _, _, _ => none
  | n + 1, v1, v2, v3, M => if 30 < v3 then (if v2 = 0 ∨ v2 = 1 then some (v2, M) else none) else ((f_X10_passes M).bind fun r3 => if v2 = 0 then (f_X10_areAllSo_38 (f_X10_areAllSo_8 n) v1 v3 r3.1 r3.2) else ((f_X10_areNotesSo v3 r3.1 r3.2).bind fun r5 => if r5.1 = 0 then (f_X10_areAllSo_38 (f_X10_areAllSo_8 n) v1 v3 r3.1 r5.2) else (f_X10_areAllSo_39 (f_X10_areAllSo_8 n) v1 v3 r3.1 1 r5.2)))
set_option maxRecDepth 4000 in
theorem t_X10_areAllSo_8 {X : Nat → List sd_V → List sd_E → sd_A → Prop} {d : Nat} (hd : 7 ≤ d) : ∀ (n : Nat) (v1 : Int) (v2 : Int) (v3 : Int) (M : sd_M) (Rr : Int × sd_M), f_X10_areAllSo_8 n v1 v2 v3 M = some Rr → sd_B X d sd_q_X10_areAllSo 8 [(0, .inr (.inr (some (331)))), (1, .inl (v1)), (2, .inl (v2)), (3, .inl (v3))] [] M (some (.inl Rr.1), sd_rp Rr.2, 0, 0) := by
  intro n
  induction n with
  | zero => intro v1 v2 v3 M Rr h; cases h
  | succ n ih =>
    intro v1 v2 v3 M Rr h
    rw [f_X10_areAllSo_8] at h
    refine sd_b_go 2 (pc2 := 11) (lv2 := [(0, .inr (.inr (some (331)))), (1, .inl (v1)), (2, .inl (v2)), (3, .inl (v3))]) (st2 := [.inl (30), .inl (v3)]) rfl ?_
    by_cases c1 : 30 < v3
    · rw [if_pos c1] at h
      refine sd_b_ct (c := .gt) (tgt := 59) rfl (decide_eq_true c1) (by decide) ?_
      refine sd_b_go 1 (pc2 := 60) (lv2 := [(0, .inr (.inr (some (331)))), (1, .inl (v1)), (2, .inl (v2)), (3, .inl (v3))]) (st2 := [.inl (v2)]) rfl ?_
      obtain ⟨g2, h⟩ := sd_if h
      cases h
      exact sd_b_rz g2 rfl rfl
    · rw [if_neg c1] at h
      refine sd_b_cf (c := .gt) rfl (decide_eq_false c1) (by decide) ?_
      refine sd_b_go 1 (pc2 := 15) (lv2 := [(0, .inr (.inr (some (331)))), (1, .inl (v1)), (2, .inl (v2)), (3, .inl (v3))]) (st2 := [.inr (.inr (some (331)))]) rfl ?_
      obtain ⟨r3, e3, h⟩ := sd_bnd h
      refine sd_b_call [.inr (.inr (some (331)))] [] rfl rfl sd_i_X10_passes rfl rfl (Nat.le_of_ble_eq_true rfl) (sd_rc_v sd_o_331) (m_X10_passes (by omega) e3) ?_
      refine sd_b_go 2 (pc2 := 21) (lv2 := [(4, .inl (r3.1)), (0, .inr (.inr (some (331)))), (1, .inl (v1)), (2, .inl (v2)), (3, .inl (v3))]) (st2 := [.inl (v2)]) rfl ?_
      by_cases c4 : v2 = 0
      · rw [if_pos c4] at h
        refine sd_b_zt (c := .eq) (tgt := 38) rfl (decide_eq_true c4) (by decide) ?_
        refine sd_b_wk [(0, .inr (.inr (some (331)))), (1, .inl (v1)), (3, .inl (v3)), (4, .inl (r3.1))] (List.forall_mem_cons.mpr ⟨rfl, (List.forall_mem_cons.mpr ⟨rfl, (List.forall_mem_cons.mpr ⟨rfl, (List.forall_mem_cons.mpr ⟨rfl, (fun _ h0 => absurd h0 List.not_mem_nil)⟩)⟩)⟩)⟩) ?_
        exact t_X10_areAllSo_38 hd (f_X10_areAllSo_8 n) ih v1 v3 r3.1 r3.2 _ h
      · rw [if_neg c4] at h
        refine sd_b_zf (c := .eq) rfl (decide_eq_false c4) (by decide) ?_
        refine sd_b_go 3 (pc2 := 28) (lv2 := [(4, .inl (r3.1)), (0, .inr (.inr (some (331)))), (1, .inl (v1)), (2, .inl (v2)), (3, .inl (v3))]) (st2 := [.inl (r3.1), .inl (v3), .inr (.inr (some (331)))]) rfl ?_
        obtain ⟨r5, e5, h⟩ := sd_bnd h
        refine sd_b_call [.inr (.inr (some (331))), .inl (v3), .inl (r3.1)] [] rfl rfl sd_i_X10_areNotesSo rfl rfl (Nat.le_of_ble_eq_true rfl) (sd_rc_v sd_o_331) (m_X10_areNotesSo (by omega) e5) ?_
        by_cases c6 : r5.1 = 0
        · rw [if_pos c6] at h
          refine sd_b_zt (c := .eq) (tgt := 38) rfl (decide_eq_true c6) (by decide) ?_
          refine sd_b_wk [(0, .inr (.inr (some (331)))), (1, .inl (v1)), (3, .inl (v3)), (4, .inl (r3.1))] (List.forall_mem_cons.mpr ⟨rfl, (List.forall_mem_cons.mpr ⟨rfl, (List.forall_mem_cons.mpr ⟨rfl, (List.forall_mem_cons.mpr ⟨rfl, (fun _ h0 => absurd h0 List.not_mem_nil)⟩)⟩)⟩)⟩) ?_
          exact t_X10_areAllSo_38 hd (f_X10_areAllSo_8 n) ih v1 v3 r3.1 r5.2 _ h
        · rw [if_neg c6] at h
          refine sd_b_zf (c := .eq) rfl (decide_eq_false c6) (by decide) ?_
          refine sd_b_go 2 (pc2 := 39) (lv2 := [(4, .inl (r3.1)), (0, .inr (.inr (some (331)))), (1, .inl (v1)), (2, .inl (v2)), (3, .inl (v3))]) (st2 := [.inl (1)]) rfl ?_
          refine sd_b_wk [(0, .inr (.inr (some (331)))), (1, .inl (v1)), (3, .inl (v3)), (4, .inl (r3.1))] (List.forall_mem_cons.mpr ⟨rfl, (List.forall_mem_cons.mpr ⟨rfl, (List.forall_mem_cons.mpr ⟨rfl, (List.forall_mem_cons.mpr ⟨rfl, (fun _ h0 => absurd h0 List.not_mem_nil)⟩)⟩)⟩)⟩) ?_
          exact t_X10_areAllSo_39 hd (f_X10_areAllSo_8 n) ih v1 v3 r3.1 1 r5.2 _ h
def f_X10_areAllSo (p1 : Int) (M : sd_M) : Option (Int × sd_M) := (f_X10_begins M).bind fun r1 => f_X10_areAllSo_8 4000 p1 1 0 r1.2
set_option maxRecDepth 4000 in
theorem t_X10_areAllSo {X : Nat → List sd_V → List sd_E → sd_A → Prop} {d : Nat} (hd : 7 ≤ d) (p1 : Int) (M : sd_M) (Rr : Int × sd_M) (h : f_X10_areAllSo p1 M = some Rr) : sd_B X d sd_q_X10_areAllSo 0 [(0, .inr (.inr (some (331)))), (1, .inl (p1))] [] M (some (.inl Rr.1), sd_rp Rr.2, 0, 0) := by
  unfold f_X10_areAllSo at h
  refine sd_b_go 3 (pc2 := 3) (lv2 := [(2, .inl (1)), (0, .inr (.inr (some (331)))), (1, .inl (p1))]) (st2 := [.inr (.inr (some (331)))]) rfl ?_
  obtain ⟨r1, e1, h⟩ := sd_bnd h
  refine sd_b_call [.inr (.inr (some (331)))] [] rfl rfl sd_i_X10_begins rfl rfl (Nat.le_of_ble_eq_true rfl) (sd_rc_v sd_o_331) (m_X10_begins (by omega) e1) ?_
  refine sd_b_go 2 (pc2 := 8) (lv2 := [(3, .inl (0)), (2, .inl (1)), (0, .inr (.inr (some (331)))), (1, .inl (p1))]) (st2 := []) rfl ?_
  refine sd_b_wk [(0, .inr (.inr (some (331)))), (1, .inl (p1)), (2, .inl (1)), (3, .inl (0))] (List.forall_mem_cons.mpr ⟨rfl, (List.forall_mem_cons.mpr ⟨rfl, (List.forall_mem_cons.mpr ⟨rfl, (List.forall_mem_cons.mpr ⟨rfl, (fun _ h0 => absurd h0 List.not_mem_nil)⟩)⟩)⟩)⟩) ?_
  exact t_X10_areAllSo_8 hd 4000 p1 1 0 r1.2 _ h
theorem m_X10_areAllSo {X : Nat → List sd_V → List sd_E → sd_A → Prop} {d : Nat} (hd : 8 ≤ d) {p1 : Int} {M : sd_M} {Rr : Int × sd_M} (h : f_X10_areAllSo p1 M = some Rr) : sd_Cal X d 235 [.inr (.inr (some (331))), .inl (p1)] (sd_rp M) (some (.inl Rr.1), sd_rp Rr.2, 0, 0) := by
  obtain ⟨d, rfl⟩ : ∃ d2, d = d2 + 1 := ⟨d - 1, by omega⟩
  exact sd_cal_of sd_i_X10_areAllSo (Nat.le_of_ble_eq_true rfl) (t_X10_areAllSo (by omega) p1 M Rr h)
-- X10_fillsFits
def sd_q_X10_fillsFits : sd_MI := (yX10_fillsFits, cX10_fillsFits, 3, none, 10, 0, sd_t_X10_fillsFits)
set_option maxRecDepth 4000 in
theorem sd_i_X10_fillsFits : sd_mL[236]? = some sd_q_X10_fillsFits := rfl
def f_X10_fillsFits_11 (k43 : Int → sd_M → Option (Int × sd_M)) : Nat → Int → Int → sd_M → Option (Int × sd_M)
  | 0, _, _, _ => none
  | n + 1, v1, v2, M => if (M 331 2) < v2 then (k43 v1 M) else ((f_X10_areAllSo v2 (sd_s M 331 21 (sd_w (v2 - 1)))).bind fun r2 => if r2.1 = 0 ∨ r2.1 = 1 then (if 0 ≤ v2 ∧ v2 < 7 then (f_X10_fillsFits_11 k43 n v1 (sd_w (v2 + 1)) (sd_s r2.2 351 v2.toNat r2.1)) else none) else none)
set_option maxRecDepth 4000 in
theorem t_X10_fillsFits_11 {X : Nat → List sd_V → List sd_E → sd_A → Prop} {d : Nat} (hd : 8 ≤ d) (k43 : Int → sd_M → Option (Int × sd_M)) (hk43 : ∀ (v1 : Int) (M : sd_M) (Rr : Int × sd_M), k43 v1 M = some Rr → sd_B X d sd_q_X10_fillsFits 43 [(0, .inr (.inr (some (331)))), (1, .inl (v1))] [] M (none, sd_rp Rr.2, 0, 0)) : ∀ (n : Nat) (v1 : Int) (v2 : Int) (M : sd_M) (Rr : Int × sd_M), f_X10_fillsFits_11 k43 n v1 v2 M = some Rr → sd_B X d sd_q_X10_fillsFits 11 [(0, .inr (.inr (some (331)))), (1, .inl (v1)), (2, .inl (v2))] [] M (none, sd_rp Rr.2, 0, 0) := by
  intro n
  induction n with
  | zero => intro v1 v2 M Rr h; cases h
  | succ n ih =>
    intro v1 v2 M Rr h
    rw [f_X10_fillsFits_11] at h
    refine sd_b_go 2 (pc2 := 13) (lv2 := [(0, .inr (.inr (some (331)))), (1, .inl (v1)), (2, .inl (v2))]) (st2 := [.inr (.inr (some (331))), .inl (v2)]) rfl ?_
    refine sd_b_gi (k := 2) sd_o_331 rfl rfl rfl ?_
    by_cases c1 : (M 331 2) < v2
    · rw [if_pos c1] at h
      refine sd_b_ct (c := .gt) (tgt := 43) rfl (decide_eq_true c1) (by decide) ?_
      refine sd_b_wk [(0, .inr (.inr (some (331)))), (1, .inl (v1))] (List.forall_mem_cons.mpr ⟨rfl, (List.forall_mem_cons.mpr ⟨rfl, (fun _ h0 => absurd h0 List.not_mem_nil)⟩)⟩) ?_
      exact hk43 v1 M _ h
    · rw [if_neg c1] at h
      refine sd_b_cf (c := .gt) rfl (decide_eq_false c1) (by decide) ?_
      refine sd_b_go 4 (pc2 := 23) (lv2 := [(0, .inr (.inr (some (331)))), (1, .inl (v1)), (2, .inl (v2))]) (st2 := [.inl (sd_w (v2 - 1)), .inr (.inr (some (331)))]) rfl ?_
      refine sd_b_pi (k := 21) sd_o_331 rfl rfl rfl rfl rfl ?_
      refine sd_b_go 1 (pc2 := 27) (lv2 := [(0, .inr (.inr (some (331)))), (1, .inl (v1)), (2, .inl (v2))]) (st2 := [.inr (.inr (some (331)))]) rfl ?_
      refine sd_b_gr (k := 36) sd_o_331 rfl rfl rfl ?_
      refine sd_b_go 3 (pc2 := 33) (lv2 := [(0, .inr (.inr (some (331)))), (1, .inl (v1)), (2, .inl (v2))]) (st2 := [.inl (v2), .inr (.inr (some (331))), .inl (v2), .inr (.inr (some (351)))]) rfl ?_
      obtain ⟨r2, e2, h⟩ := sd_bnd h
      refine sd_b_call [.inr (.inr (some (331))), .inl (v2)] [.inl (v2), .inr (.inr (some (351)))] rfl rfl sd_i_X10_areAllSo rfl rfl (Nat.le_of_ble_eq_true rfl) (sd_rc_v sd_o_331) (m_X10_areAllSo (by omega) e2) ?_
      obtain ⟨g3, h⟩ := sd_if h
      obtain ⟨g4, h⟩ := sd_if h
      refine sd_b_sz (sd_oa sd_o_331 (by decide) (off := 20) (List.mem_of_getElem? (i := 19) rfl)) g3 g4 rfl ?_
      refine sd_b_go 2 (pc2 := 11) (lv2 := [(2, .inl (sd_w (v2 + 1))), (0, .inr (.inr (some (331)))), (1, .inl (v1))]) (st2 := []) rfl ?_
      refine sd_b_wk [(0, .inr (.inr (some (331)))), (1, .inl (v1)), (2, .inl (sd_w (v2 + 1)))] (List.forall_mem_cons.mpr ⟨rfl, (List.forall_mem_cons.mpr ⟨rfl, (List.forall_mem_cons.mpr ⟨rfl, (fun _ h0 => absurd h0 List.not_mem_nil)⟩)⟩)⟩) ?_
      exact ih v1 (sd_w (v2 + 1)) (sd_s r2.2 351 v2.toNat r2.1) _ h
def f_X10_fillsFits_43 (v1 : Int) (M : sd_M) : Option (Int × sd_M) := (f_X10_laysBack (sd_s M 331 21 v1)).bind fun r1 => some (0, r1.2)
set_option maxRecDepth 4000 in
theorem t_X10_fillsFits_43 {X : Nat → List sd_V → List sd_E → sd_A → Prop} {d : Nat} (hd : 8 ≤ d) (v1 : Int) (M : sd_M) (Rr : Int × sd_M) (h : f_X10_fillsFits_43 v1 M = some Rr) : sd_B X d sd_q_X10_fillsFits 43 [(0, .inr (.inr (some (331)))), (1, .inl (v1))] [] M (none, sd_rp Rr.2, 0, 0) := by
  unfold f_X10_fillsFits_43 at h
  refine sd_b_go 2 (pc2 := 45) (lv2 := [(0, .inr (.inr (some (331)))), (1, .inl (v1))]) (st2 := [.inl (v1), .inr (.inr (some (331)))]) rfl ?_
  refine sd_b_pi (k := 21) sd_o_331 rfl rfl rfl rfl rfl ?_
  refine sd_b_go 1 (pc2 := 49) (lv2 := [(0, .inr (.inr (some (331)))), (1, .inl (v1))]) (st2 := [.inr (.inr (some (331)))]) rfl ?_
  obtain ⟨r1, e1, h⟩ := sd_bnd h
  refine sd_b_call [.inr (.inr (some (331)))] [] rfl rfl sd_i_X10_laysBack rfl rfl (Nat.le_of_ble_eq_true rfl) (sd_rc_v sd_o_331) (m_X10_laysBack (by omega) e1) ?_
  cases h
  exact sd_b_rt rfl rfl rfl
def f_X10_fillsFits (M : sd_M) : Option (Int × sd_M) := (f_X10_keeps M).bind fun r1 => f_X10_fillsFits_11 (f_X10_fillsFits_43) 4000 (M 331 21) 0 r1.2
set_option maxRecDepth 4000 in
theorem t_X10_fillsFits {X : Nat → List sd_V → List sd_E → sd_A → Prop} {d : Nat} (hd : 8 ≤ d) (M : sd_M) (Rr : Int × sd_M) (h : f_X10_fillsFits M = some Rr) : sd_B X d sd_q_X10_fillsFits 0 [(0, .inr (.inr (some (331))))] [] M (none, sd_rp Rr.2, 0, 0) := by
  unfold f_X10_fillsFits at h
  refine sd_b_go 1 (pc2 := 1) (lv2 := [(0, .inr (.inr (some (331))))]) (st2 := [.inr (.inr (some (331)))]) rfl ?_
  refine sd_b_gi (k := 21) sd_o_331 rfl rfl rfl ?_
  refine sd_b_go 2 (pc2 := 6) (lv2 := [(1, .inl (M 331 21)), (0, .inr (.inr (some (331))))]) (st2 := [.inr (.inr (some (331)))]) rfl ?_
  obtain ⟨r1, e1, h⟩ := sd_bnd h
  refine sd_b_call [.inr (.inr (some (331)))] [] rfl rfl sd_i_X10_keeps rfl rfl (Nat.le_of_ble_eq_true rfl) (sd_rc_v sd_o_331) (m_X10_keeps (by omega) e1) ?_
  refine sd_b_go 2 (pc2 := 11) (lv2 := [(2, .inl (0)), (1, .inl (M 331 21)), (0, .inr (.inr (some (331))))]) (st2 := []) rfl ?_
  refine sd_b_wk [(0, .inr (.inr (some (331)))), (1, .inl (M 331 21)), (2, .inl (0))] (List.forall_mem_cons.mpr ⟨rfl, (List.forall_mem_cons.mpr ⟨rfl, (List.forall_mem_cons.mpr ⟨rfl, (fun _ h0 => absurd h0 List.not_mem_nil)⟩)⟩)⟩) ?_
  exact t_X10_fillsFits_11 hd (f_X10_fillsFits_43) (t_X10_fillsFits_43 hd) 4000 (M 331 21) 0 r1.2 _ h
theorem m_X10_fillsFits {X : Nat → List sd_V → List sd_E → sd_A → Prop} {d : Nat} (hd : 9 ≤ d) {M : sd_M} {Rr : Int × sd_M} (h : f_X10_fillsFits M = some Rr) : sd_Cal X d 236 [.inr (.inr (some (331)))] (sd_rp M) (none, sd_rp Rr.2, 0, 0) := by
  obtain ⟨d, rfl⟩ : ∃ d2, d = d2 + 1 := ⟨d - 1, by omega⟩
  exact sd_cal_of sd_i_X10_fillsFits (Nat.le_of_ble_eq_true rfl) (t_X10_fillsFits (by omega) M Rr h)
-- X10_ruled
def sd_q_X10_ruled : sd_MI := (yX10_ruled, cX10_ruled, 5, (some .int), 10, 1, sd_t_X10_ruled)
set_option maxRecDepth 4000 in
theorem sd_i_X10_ruled : sd_mL[237]? = some sd_q_X10_ruled := rfl
def f_X10_ruled_61 (k35 : Int → Int → Int → Int → sd_M → Option (Int × sd_M)) (k67 : Int → Int → Int → sd_M → Option (Int × sd_M)) (v1 : Int) (v2 : Int) (v3 : Int) (v4 : Int) (M : sd_M) : Option (Int × sd_M) := k35 v1 v2 v3 (sd_w (v4 + (-1))) M
set_option maxRecDepth 4000 in
theorem t_X10_ruled_61 {X : Nat → List sd_V → List sd_E → sd_A → Prop} {d : Nat} (hd : 9 ≤ d) (k35 : Int → Int → Int → Int → sd_M → Option (Int × sd_M)) (k67 : Int → Int → Int → sd_M → Option (Int × sd_M)) (hk35 : ∀ (v1 : Int) (v2 : Int) (v3 : Int) (v4 : Int) (M : sd_M) (Rr : Int × sd_M), k35 v1 v2 v3 v4 M = some Rr → sd_B X d sd_q_X10_ruled 35 [(0, .inr (.inr (some (331)))), (1, .inl (v1)), (2, .inl (v2)), (3, .inl (v3)), (4, .inl (v4))] [] M (some (.inl Rr.1), sd_rp Rr.2, 0, 0)) (hk67 : ∀ (v1 : Int) (v2 : Int) (v3 : Int) (M : sd_M) (Rr : Int × sd_M), k67 v1 v2 v3 M = some Rr → sd_B X d sd_q_X10_ruled 67 [(1, .inl (v1)), (2, .inl (v2)), (3, .inl (v3))] [] M (some (.inl Rr.1), sd_rp Rr.2, 0, 0)) (v1 : Int) (v2 : Int) (v3 : Int) (v4 : Int) (M : sd_M) (Rr : Int × sd_M) (h : f_X10_ruled_61 k35 k67 v1 v2 v3 v4 M = some Rr) : sd_B X d sd_q_X10_ruled 61 [(0, .inr (.inr (some (331)))), (1, .inl (v1)), (2, .inl (v2)), (3, .inl (v3)), (4, .inl (v4))] [] M (some (.inl Rr.1), sd_rp Rr.2, 0, 0) := by
  unfold f_X10_ruled_61 at h
  refine sd_b_go 2 (pc2 := 35) (lv2 := [(4, .inl (sd_w (v4 + (-1)))), (0, .inr (.inr (some (331)))), (1, .inl (v1)), (2, .inl (v2)), (3, .inl (v3))]) (st2 := []) rfl ?_
  refine sd_b_wk [(0, .inr (.inr (some (331)))), (1, .inl (v1)), (2, .inl (v2)), (3, .inl (v3)), (4, .inl (sd_w (v4 + (-1))))] (List.forall_mem_cons.mpr ⟨rfl, (List.forall_mem_cons.mpr ⟨rfl, (List.forall_mem_cons.mpr ⟨rfl, (List.forall_mem_cons.mpr ⟨rfl, (List.forall_mem_cons.mpr ⟨rfl, (fun _ h0 => absurd h0 List.not_mem_nil)⟩)⟩)⟩)⟩)⟩) ?_
  exact hk35 v1 v2 v3 (sd_w (v4 + (-1))) M _ h
def f_X10_ruled_35 (k67 : Int → Int → Int → sd_M → Option (Int × sd_M)) : Nat → Int → Int → Int → Int → sd_M → Option (Int × sd_M)
  | 0, _, _, _, _, _ => none
  | n + 1, v1, v2, v3, v4, M => if v4 < 0 then (k67 v1 v2 v3 M) else (if 0 ≤ v4 ∧ v4 < 7 then (if (M 351 v4.toNat) = 0 then (f_X10_ruled_61 (f_X10_ruled_35 k67 n) k67 v1 v2 v3 v4 M) else (f_X10_ruled_61 (f_X10_ruled_35 k67 n) k67 v1 (sd_w (v2 + 1)) (sd_w (v4 - 1)) v4 M)) else none)
set_option maxRecDepth 4000 in
theorem t_X10_ruled_35 {X : Nat → List sd_V → List sd_E → sd_A → Prop} {d : Nat} (hd : 9 ≤ d) (k67 : Int → Int → Int → sd_M → Option (Int × sd_M)) (hk67 : ∀ (v1 : Int) (v2 : Int) (v3 : Int) (M : sd_M) (Rr : Int × sd_M), k67 v1 v2 v3 M = some Rr → sd_B X d sd_q_X10_ruled 67 [(1, .inl (v1)), (2, .inl (v2)), (3, .inl (v3))] [] M (some (.inl Rr.1), sd_rp Rr.2, 0, 0)) : ∀ (n : Nat) (v1 : Int) (v2 : Int) (v3 : Int) (v4 : Int) (M : sd_M) (Rr : Int × sd_M), f_X10_ruled_35 k67 n v1 v2 v3 v4 M = some Rr → sd_B X d sd_q_X10_ruled 35 [(0, .inr (.inr (some (331)))), (1, .inl (v1)), (2, .inl (v2)), (3, .inl (v3)), (4, .inl (v4))] [] M (some (.inl Rr.1), sd_rp Rr.2, 0, 0) := by
  intro n
  induction n with
  | zero => intro v1 v2 v3 v4 M Rr h; cases h
  | succ n ih =>
    intro v1 v2 v3 v4 M Rr h
    rw [f_X10_ruled_35] at h
    refine sd_b_go 1 (pc2 := 37) (lv2 := [(0, .inr (.inr (some (331)))), (1, .inl (v1)), (2, .inl (v2)), (3, .inl (v3)), (4, .inl (v4))]) (st2 := [.inl (v4)]) rfl ?_
    by_cases c1 : v4 < 0
    · rw [if_pos c1] at h
      refine sd_b_zt (c := .lt) (tgt := 67) rfl (decide_eq_true c1) (by decide) ?_
      refine sd_b_wk [(1, .inl (v1)), (2, .inl (v2)), (3, .inl (v3))] (List.forall_mem_cons.mpr ⟨rfl, (List.forall_mem_cons.mpr ⟨rfl, (List.forall_mem_cons.mpr ⟨rfl, (fun _ h0 => absurd h0 List.not_mem_nil)⟩)⟩)⟩) ?_
      exact hk67 v1 v2 v3 M _ h
    · rw [if_neg c1] at h
      refine sd_b_zf (c := .lt) rfl (decide_eq_false c1) (by decide) ?_
      refine sd_b_go 1 (pc2 := 41) (lv2 := [(0, .inr (.inr (some (331)))), (1, .inl (v1)), (2, .inl (v2)), (3, .inl (v3)), (4, .inl (v4))]) (st2 := [.inr (.inr (some (331)))]) rfl ?_
      refine sd_b_gr (k := 36) sd_o_331 rfl rfl rfl ?_
      refine sd_b_go 1 (pc2 := 46) (lv2 := [(0, .inr (.inr (some (331)))), (1, .inl (v1)), (2, .inl (v2)), (3, .inl (v3)), (4, .inl (v4))]) (st2 := [.inl (v4), .inr (.inr (some (351)))]) rfl ?_
      obtain ⟨g2, h⟩ := sd_if h
      refine sd_b_ab (sd_oa sd_o_331 (by decide) (off := 20) (List.mem_of_getElem? (i := 19) rfl)) (by decide) g2 rfl ?_
      by_cases c3 : (M 351 v4.toNat) = 0
      · rw [if_pos c3] at h
        refine sd_b_zf (c := .ne) rfl (decide_eq_false (not_not_intro c3)) (by decide) ?_
        refine sd_b_go 1 (pc2 := 61) (lv2 := [(0, .inr (.inr (some (331)))), (1, .inl (v1)), (2, .inl (v2)), (3, .inl (v3)), (4, .inl (v4))]) (st2 := []) rfl ?_
        refine sd_b_wk [(0, .inr (.inr (some (331)))), (1, .inl (v1)), (2, .inl (v2)), (3, .inl (v3)), (4, .inl (v4))] (List.forall_mem_cons.mpr ⟨rfl, (List.forall_mem_cons.mpr ⟨rfl, (List.forall_mem_cons.mpr ⟨rfl, (List.forall_mem_cons.mpr ⟨rfl, (List.forall_mem_cons.mpr ⟨rfl, (fun _ h0 => absurd h0 List.not_mem_nil)⟩)⟩)⟩)⟩)⟩) ?_
        exact t_X10_ruled_61 hd (f_X10_ruled_35 k67 n) k67 ih hk67 v1 v2 v3 v4 M _ h
      · rw [if_neg c3] at h
        refine sd_b_zt (c := .ne) (tgt := 53) rfl (decide_eq_true c3) (by decide) ?_
        refine sd_b_go 5 (pc2 := 61) (lv2 := [(2, .inl (sd_w (v2 + 1))), (3, .inl (sd_w (v4 - 1))), (0, .inr (.inr (some (331)))), (1, .inl (v1)), (4, .inl (v4))]) (st2 := []) rfl ?_
        refine sd_b_wk [(0, .inr (.inr (some (331)))), (1, .inl (v1)), (2, .inl (sd_w (v2 + 1))), (3, .inl (sd_w (v4 - 1))), (4, .inl (v4))] (List.forall_mem_cons.mpr ⟨rfl, (List.forall_mem_cons.mpr ⟨rfl, (List.forall_mem_cons.mpr ⟨rfl, (List.forall_mem_cons.mpr ⟨rfl, (List.forall_mem_cons.mpr ⟨rfl, (fun _ h0 => absurd h0 List.not_mem_nil)⟩)⟩)⟩)⟩)⟩) ?_
        exact t_X10_ruled_61 hd (f_X10_ruled_35 k67 n) k67 ih hk67 v1 (sd_w (v2 + 1)) (sd_w (v4 - 1)) v4 M _ h
def f_X10_ruled_67 (v1 : Int) (v2 : Int) (v3 : Int) (M : sd_M) : Option (Int × sd_M) := if v1 = 0 then (some (v2, M)) else (some (v3, M))
set_option maxRecDepth 4000 in
theorem t_X10_ruled_67 {X : Nat → List sd_V → List sd_E → sd_A → Prop} {d : Nat} (hd : 9 ≤ d) (v1 : Int) (v2 : Int) (v3 : Int) (M : sd_M) (Rr : Int × sd_M) (h : f_X10_ruled_67 v1 v2 v3 M = some Rr) : sd_B X d sd_q_X10_ruled 67 [(1, .inl (v1)), (2, .inl (v2)), (3, .inl (v3))] [] M (some (.inl Rr.1), sd_rp Rr.2, 0, 0) := by
  unfold f_X10_ruled_67 at h
  refine sd_b_go 1 (pc2 := 68) (lv2 := [(1, .inl (v1)), (2, .inl (v2)), (3, .inl (v3))]) (st2 := [.inl (v1)]) rfl ?_
  by_cases c1 : v1 = 0
  · rw [if_pos c1] at h
    refine sd_b_zf (c := .ne) rfl (decide_eq_false (not_not_intro c1)) (by decide) ?_
    refine sd_b_go 2 (pc2 := 76) (lv2 := [(1, .inl (v1)), (2, .inl (v2)), (3, .inl (v3))]) (st2 := [.inl (v2)]) rfl ?_
    cases h
    exact sd_b_rt rfl rfl rfl
  · rw [if_neg c1] at h
    refine sd_b_zt (c := .ne) (tgt := 75) rfl (decide_eq_true c1) (by decide) ?_
    refine sd_b_go 1 (pc2 := 76) (lv2 := [(1, .inl (v1)), (2, .inl (v2)), (3, .inl (v3))]) (st2 := [.inl (v3)]) rfl ?_
    cases h
    exact sd_b_rt rfl rfl rfl
def f_X10_ruled (p1 : Int) (M : sd_M) : Option (Int × sd_M) := (f_X10_isSlip M).bind fun r1 => if r1.1 = 0 then (some ((-3), r1.2)) else ((f_X10_in p1 0 1 r1.2).bind fun r3 => if r3.1 = 0 then (some ((-3), r3.2)) else ((f_X10_fillsFits r3.2).bind fun r5 => f_X10_ruled_35 (f_X10_ruled_67) 4000 p1 0 ((-2)) (r5.2 331 2) r5.2))
set_option maxRecDepth 4000 in
theorem t_X10_ruled {X : Nat → List sd_V → List sd_E → sd_A → Prop} {d : Nat} (hd : 9 ≤ d) (p1 : Int) (M : sd_M) (Rr : Int × sd_M) (h : f_X10_ruled p1 M = some Rr) : sd_B X d sd_q_X10_ruled 0 [(0, .inr (.inr (some (331)))), (1, .inl (p1))] [] M (some (.inl Rr.1), sd_rp Rr.2, 0, 0) := by
  unfold f_X10_ruled at h
  refine sd_b_go 1 (pc2 := 1) (lv2 := [(0, .inr (.inr (some (331)))), (1, .inl (p1))]) (st2 := [.inr (.inr (some (331)))]) rfl ?_
  obtain ⟨r1, e1, h⟩ := sd_bnd h
  refine sd_b_call [.inr (.inr (some (331)))] [] rfl rfl sd_i_X10_isSlip rfl rfl (Nat.le_of_ble_eq_true rfl) (sd_rc_v sd_o_331) (m_X10_isSlip (by omega) e1) ?_
  by_cases c2 : r1.1 = 0
  · rw [if_pos c2] at h
    refine sd_b_zt (c := .eq) (tgt := 17) rfl (decide_eq_true c2) (by decide) ?_
    refine sd_b_go 1 (pc2 := 19) (lv2 := [(0, .inr (.inr (some (331)))), (1, .inl (p1))]) (st2 := [.inl ((-3))]) rfl ?_
    cases h
    exact sd_b_rt rfl rfl rfl
  · rw [if_neg c2] at h
    refine sd_b_zf (c := .eq) rfl (decide_eq_false c2) (by decide) ?_
    refine sd_b_go 4 (pc2 := 11) (lv2 := [(0, .inr (.inr (some (331)))), (1, .inl (p1))]) (st2 := [.inr (.inl (1)), .inr (.inl (0)), .inr (.inl (p1))]) rfl ?_
    obtain ⟨r3, e3, h⟩ := sd_bnd h
    refine sd_b_call [.inr (.inl (p1)), .inr (.inl (0)), .inr (.inl (1))] [] rfl rfl sd_i_X10_in rfl rfl (Nat.le_of_ble_eq_true rfl) rfl (m_X10_in (by omega) e3) ?_
    by_cases c4 : r3.1 = 0
    · rw [if_pos c4] at h
      refine sd_b_zf (c := .ne) rfl (decide_eq_false (not_not_intro c4)) (by decide) ?_
      refine sd_b_go 1 (pc2 := 19) (lv2 := [(0, .inr (.inr (some (331)))), (1, .inl (p1))]) (st2 := [.inl ((-3))]) rfl ?_
      cases h
      exact sd_b_rt rfl rfl rfl
    · rw [if_neg c4] at h
      refine sd_b_zt (c := .ne) (tgt := 20) rfl (decide_eq_true c4) (by decide) ?_
      refine sd_b_go 1 (pc2 := 21) (lv2 := [(0, .inr (.inr (some (331)))), (1, .inl (p1))]) (st2 := [.inr (.inr (some (331)))]) rfl ?_
      obtain ⟨r5, e5, h⟩ := sd_bnd h
      refine sd_b_call [.inr (.inr (some (331)))] [] rfl rfl sd_i_X10_fillsFits rfl rfl (Nat.le_of_ble_eq_true rfl) (sd_rc_v sd_o_331) (m_X10_fillsFits (by omega) e5) ?_
      refine sd_b_go 5 (pc2 := 30) (lv2 := [(3, .inl ((-2))), (2, .inl (0)), (0, .inr (.inr (some (331)))), (1, .inl (p1))]) (st2 := [.inr (.inr (some (331)))]) rfl ?_
      refine sd_b_gi (k := 2) sd_o_331 rfl rfl rfl ?_
      refine sd_b_go 1 (pc2 := 35) (lv2 := [(4, .inl (r5.2 331 2)), (3, .inl ((-2))), (2, .inl (0)), (0, .inr (.inr (some (331)))), (1, .inl (p1))]) (st2 := []) rfl ?_
      refine sd_b_wk [(0, .inr (.inr (some (331)))), (1, .inl (p1)), (2, .inl (0)), (3, .inl ((-2))), (4, .inl (r5.2 331 2))] (List.forall_mem_cons.mpr ⟨rfl, (List.forall_mem_cons.mpr ⟨rfl, (List.forall_mem_cons.mpr ⟨rfl, (List.forall_mem_cons.mpr ⟨rfl, (List.forall_mem_cons.mpr ⟨rfl, (fun _ h0 => absurd h0 List.not_mem_nil)⟩)⟩)⟩)⟩)⟩) ?_
      exact t_X10_ruled_35 hd (f_X10_ruled_67) (t_X10_ruled_67 hd) 4000 p1 0 ((-2)) (r5.2 331 2) r5.2 _ h
theorem m_X10_ruled {X : Nat → List sd_V → List sd_E → sd_A → Prop} {d : Nat} (hd : 10 ≤ d) {p1 : Int} {M : sd_M} {Rr : Int × sd_M} (h : f_X10_ruled p1 M = some Rr) : sd_Cal X d 237 [.inr (.inr (some (331))), .inl (p1)] (sd_rp M) (some (.inl Rr.1), sd_rp Rr.2, 0, 0) := by
  obtain ⟨d, rfl⟩ : ∃ d2, d = d2 + 1 := ⟨d - 1, by omega⟩
  exact sd_cal_of sd_i_X10_ruled (Nat.le_of_ble_eq_true rfl) (t_X10_ruled (by omega) p1 M Rr h)
-- X10_alikeAt
def sd_q_X10_alikeAt : sd_MI := (yX10_alikeAt, cX10_alikeAt, 6, (some .int), 10, 1, sd_t_X10_alikeAt)
set_option maxRecDepth 4000 in
theorem sd_i_X10_alikeAt : sd_mL[238]? = some sd_q_X10_alikeAt := rfl
def f_X10_alikeAt_79 (k18 : Int → Int → Int → Int → Int → sd_M → Option (Int × sd_M)) (k88 : Int → Int → Int → Int → sd_M → Option (Int × sd_M)) (v1 : Int) (v2 : Int) (v3 : Int) (v5 : Int) (s0 : Int) (s1 : Int) (M : sd_M) : Option (Int × sd_M) := k18 v1 v2 v3 (sd_w (s1 + s0)) (sd_w (v5 + 1)) M
set_option maxRecDepth 4000 in
theorem t_X10_alikeAt_79 {X : Nat → List sd_V → List sd_E → sd_A → Prop} {d : Nat} (hd : 0 ≤ d) (k18 : Int → Int → Int → Int → Int → sd_M → Option (Int × sd_M)) (k88 : Int → Int → Int → Int → sd_M → Option (Int × sd_M)) (hk18 : ∀ (v1 : Int) (v2 : Int) (v3 : Int) (v4 : Int) (v5 : Int) (M : sd_M) (Rr : Int × sd_M), k18 v1 v2 v3 v4 v5 M = some Rr → sd_B X d sd_q_X10_alikeAt 18 [(0, .inr (.inr (some (331)))), (1, .inl (v1)), (2, .inl (v2)), (3, .inl (v3)), (4, .inl (v4)), (5, .inl (v5))] [] M (some (.inl Rr.1), sd_rp Rr.2, 0, 0)) (hk88 : ∀ (v1 : Int) (v2 : Int) (v3 : Int) (v4 : Int) (M : sd_M) (Rr : Int × sd_M), k88 v1 v2 v3 v4 M = some Rr → sd_B X d sd_q_X10_alikeAt 88 [(0, .inr (.inr (some (331)))), (1, .inl (v1)), (2, .inl (v2)), (3, .inl (v3)), (4, .inl (v4))] [] M (some (.inl Rr.1), sd_rp Rr.2, 0, 0)) (v1 : Int) (v2 : Int) (v3 : Int) (v5 : Int) (s0 : Int) (s1 : Int) (M : sd_M) (Rr : Int × sd_M) (h : f_X10_alikeAt_79 k18 k88 v1 v2 v3 v5 s0 s1 M = some Rr) : sd_B X d sd_q_X10_alikeAt 79 [(0, .inr (.inr (some (331)))), (1, .inl (v1)), (2, .inl (v2)), (3, .inl (v3)), (5, .inl (v5))] [.inl (s0), .inl (s1)] M (some (.inl Rr.1), sd_rp Rr.2, 0, 0) := by
  unfold f_X10_alikeAt_79 at h
  refine sd_b_go 4 (pc2 := 18) (lv2 := [(5, .inl (sd_w (v5 + 1))), (4, .inl (sd_w (s1 + s0))), (0, .inr (.inr (some (331)))), (1, .inl (v1)), (2, .inl (v2)), (3, .inl (v3))]) (st2 := []) rfl ?_
  refine sd_b_wk [(0, .inr (.inr (some (331)))), (1, .inl (v1)), (2, .inl (v2)), (3, .inl (v3)), (4, .inl (sd_w (s1 + s0))), (5, .inl (sd_w (v5 + 1)))] (List.forall_mem_cons.mpr ⟨rfl, (List.forall_mem_cons.mpr ⟨rfl, (List.forall_mem_cons.mpr ⟨rfl, (List.forall_mem_cons.mpr ⟨rfl, (List.forall_mem_cons.mpr ⟨rfl, (List.forall_mem_cons.mpr ⟨rfl, (fun _ h0 => absurd h0 List.not_mem_nil)⟩)⟩)⟩)⟩)⟩)⟩) ?_
  exact hk18 v1 v2 v3 (sd_w (s1 + s0)) (sd_w (v5 + 1)) M _ h
def f_X10_alikeAt_78 (k18 : Int → Int → Int → Int → Int → sd_M → Option (Int × sd_M)) (k88 : Int → Int → Int → Int → sd_M → Option (Int × sd_M)) (v1 : Int) (v2 : Int) (v3 : Int) (v5 : Int) (s0 : Int) (M : sd_M) : Option (Int × sd_M) := f_X10_alikeAt_79 k18 k88 v1 v2 v3 v5 0 s0 M
set_option maxRecDepth 4000 in
theorem t_X10_alikeAt_78 {X : Nat → List sd_V → List sd_E → sd_A → Prop} {d : Nat} (hd : 0 ≤ d) (k18 : Int → Int → Int → Int → Int → sd_M → Option (Int × sd_M)) (k88 : Int → Int → Int → Int → sd_M → Option (Int × sd_M)) (hk18 : ∀ (v1 : Int) (v2 : Int) (v3 : Int) (v4 : Int) (v5 : Int) (M : sd_M) (Rr : Int × sd_M), k18 v1 v2 v3 v4 v5 M = some Rr → sd_B X d sd_q_X10_alikeAt 18 [(0, .inr (.inr (some (331)))), (1, .inl (v1)), (2, .inl (v2)), (3, .inl (v3)), (4, .inl (v4)), (5, .inl (v5))] [] M (some (.inl Rr.1), sd_rp Rr.2, 0, 0)) (hk88 : ∀ (v1 : Int) (v2 : Int) (v3 : Int) (v4 : Int) (M : sd_M) (Rr : Int × sd_M), k88 v1 v2 v3 v4 M = some Rr → sd_B X d sd_q_X10_alikeAt 88 [(0, .inr (.inr (some (331)))), (1, .inl (v1)), (2, .inl (v2)), (3, .inl (v3)), (4, .inl (v4))] [] M (some (.inl Rr.1), sd_rp Rr.2, 0, 0)) (v1 : Int) (v2 : Int) (v3 : Int) (v5 : Int) (s0 : Int) (M : sd_M) (Rr : Int × sd_M) (h : f_X10_alikeAt_78 k18 k88 v1 v2 v3 v5 s0 M = some Rr) : sd_B X d sd_q_X10_alikeAt 78 [(0, .inr (.inr (some (331)))), (1, .inl (v1)), (2, .inl (v2)), (3, .inl (v3)), (5, .inl (v5))] [.inl (s0)] M (some (.inl Rr.1), sd_rp Rr.2, 0, 0) := by
  unfold f_X10_alikeAt_78 at h
  refine sd_b_go 1 (pc2 := 79) (lv2 := [(0, .inr (.inr (some (331)))), (1, .inl (v1)), (2, .inl (v2)), (3, .inl (v3)), (5, .inl (v5))]) (st2 := [.inl (0), .inl (s0)]) rfl ?_
  refine sd_b_wk [(0, .inr (.inr (some (331)))), (1, .inl (v1)), (2, .inl (v2)), (3, .inl (v3)), (5, .inl (v5))] (List.forall_mem_cons.mpr ⟨rfl, (List.forall_mem_cons.mpr ⟨rfl, (List.forall_mem_cons.mpr ⟨rfl, (List.forall_mem_cons.mpr ⟨rfl, (List.forall_mem_cons.mpr ⟨rfl, (fun _ h0 => absurd h0 List.not_mem_nil)⟩)⟩)⟩)⟩)⟩) ?_
  exact t_X10_alikeAt_79 hd k18 k88 hk18 hk88 v1 v2 v3 v5 0 s0 M _ h
def f_X10_alikeAt_18 (k88 : Int → Int → Int → Int → sd_M → Option (Int × sd_M)) : Nat → Int → Int → Int → Int → Int → sd_M → Option (Int × sd_M)
  | 0, _, _, _, _, _, _ => none
  | n + 1, v1, v2, v3, v4, v5, M => if (M 331 2) < v5 then (k88 v1 v2 v3 v4 M) else (if 0 ≤ v3 ∧ v3 < 7 then (if (M 351 v3.toNat) = 0 then (k88 v1 v2 v3 v4 M) else (if 0 ≤ v5 ∧ v5 < 7 then (if (M 351 v5.toNat) = 0 then (f_X10_alikeAt_78 (f_X10_alikeAt_18 k88 n) k88 v1 v2 v3 v5 v4 M) else (if 0 ≤ (sd_w ((sd_w (31 * v3)) + v1)) ∧ (sd_w ((sd_w (31 * v3)) + v1)) < 217 then (if 0 ≤ (sd_w ((sd_w (31 * v5)) + v1)) ∧ (sd_w ((sd_w (31 * v5)) + v1)) < 217 then (if (M 352 (sd_w ((sd_w (31 * v3)) + v1)).toNat) = (M 352 (sd_w ((sd_w (31 * v5)) + v1)).toNat) then (f_X10_alikeAt_79 (f_X10_alikeAt_18 k88 n) k88 v1 v2 v3 v5 1 v4 M) else (f_X10_alikeAt_78 (f_X10_alikeAt_18 k88 n) k88 v1 v2 v3 v5 v4 M)) else none) else none)) else none)) else none)
set_option maxRecDepth 4000 in
theorem t_X10_alikeAt_18 {X : Nat → List sd_V → List sd_E → sd_A → Prop} {d : Nat} (hd : 0 ≤ d) (k88 : Int → Int → Int → Int → sd_M → Option (Int × sd_M)) (hk88 : ∀ (v1 : Int) (v2 : Int) (v3 : Int) (v4 : Int) (M : sd_M) (Rr : Int × sd_M), k88 v1 v2 v3 v4 M = some Rr → sd_B X d sd_q_X10_alikeAt 88 [(0, .inr (.inr (some (331)))), (1, .inl (v1)), (2, .inl (v2)), (3, .inl (v3)), (4, .inl (v4))] [] M (some (.inl Rr.1), sd_rp Rr.2, 0, 0)) : ∀ (n : Nat) (v1 : Int) (v2 : Int) (v3 : Int) (v4 : Int) (v5 : Int) (M : sd_M) (Rr : Int × sd_M), f_X10_alikeAt_18 k88 n v1 v2 v3 v4 v5 M = some Rr → sd_B X d sd_q_X10_alikeAt 18 [(0, .inr (.inr (some (331)))), (1, .inl (v1)), (2, .inl (v2)), (3, .inl (v3)), (4, .inl (v4)), (5, .inl (v5))] [] M (some (.inl Rr.1), sd_rp Rr.2, 0, 0) := by
  intro n
  induction n with
  | zero => intro v1 v2 v3 v4 v5 M Rr h; cases h
  | succ n ih =>
    intro v1 v2 v3 v4 v5 M Rr h
    rw [f_X10_alikeAt_18] at h
    refine sd_b_go 2 (pc2 := 21) (lv2 := [(0, .inr (.inr (some (331)))), (1, .inl (v1)), (2, .inl (v2)), (3, .inl (v3)), (4, .inl (v4)), (5, .inl (v5))]) (st2 := [.inr (.inr (some (331))), .inl (v5)]) rfl ?_
    refine sd_b_gi (k := 2) sd_o_331 rfl rfl rfl ?_
    by_cases c1 : (M 331 2) < v5
    · rw [if_pos c1] at h
      refine sd_b_ct (c := .gt) (tgt := 88) rfl (decide_eq_true c1) (by decide) ?_
      refine sd_b_wk [(0, .inr (.inr (some (331)))), (1, .inl (v1)), (2, .inl (v2)), (3, .inl (v3)), (4, .inl (v4))] (List.forall_mem_cons.mpr ⟨rfl, (List.forall_mem_cons.mpr ⟨rfl, (List.forall_mem_cons.mpr ⟨rfl, (List.forall_mem_cons.mpr ⟨rfl, (List.forall_mem_cons.mpr ⟨rfl, (fun _ h0 => absurd h0 List.not_mem_nil)⟩)⟩)⟩)⟩)⟩) ?_
      exact hk88 v1 v2 v3 v4 M _ h
    · rw [if_neg c1] at h
      refine sd_b_cf (c := .gt) rfl (decide_eq_false c1) (by decide) ?_
      refine sd_b_go 1 (pc2 := 28) (lv2 := [(0, .inr (.inr (some (331)))), (1, .inl (v1)), (2, .inl (v2)), (3, .inl (v3)), (4, .inl (v4)), (5, .inl (v5))]) (st2 := [.inr (.inr (some (331)))]) rfl ?_
      refine sd_b_gr (k := 36) sd_o_331 rfl rfl rfl ?_
      refine sd_b_go 1 (pc2 := 32) (lv2 := [(0, .inr (.inr (some (331)))), (1, .inl (v1)), (2, .inl (v2)), (3, .inl (v3)), (4, .inl (v4)), (5, .inl (v5))]) (st2 := [.inl (v3), .inr (.inr (some (351)))]) rfl ?_
      obtain ⟨g2, h⟩ := sd_if h
      refine sd_b_ab (sd_oa sd_o_331 (by decide) (off := 20) (List.mem_of_getElem? (i := 19) rfl)) (by decide) g2 rfl ?_
      by_cases c3 : (M 351 v3.toNat) = 0
      · rw [if_pos c3] at h
        refine sd_b_zt (c := .eq) (tgt := 88) rfl (decide_eq_true c3) (by decide) ?_
        refine sd_b_wk [(0, .inr (.inr (some (331)))), (1, .inl (v1)), (2, .inl (v2)), (3, .inl (v3)), (4, .inl (v4))] (List.forall_mem_cons.mpr ⟨rfl, (List.forall_mem_cons.mpr ⟨rfl, (List.forall_mem_cons.mpr ⟨rfl, (List.forall_mem_cons.mpr ⟨rfl, (List.forall_mem_cons.mpr ⟨rfl, (fun _ h0 => absurd h0 List.not_mem_nil)⟩)⟩)⟩)⟩)⟩) ?_
        exact hk88 v1 v2 v3 v4 M _ h
      · rw [if_neg c3] at h
        refine sd_b_zf (c := .eq) rfl (decide_eq_false c3) (by decide) ?_
        refine sd_b_go 2 (pc2 := 39) (lv2 := [(0, .inr (.inr (some (331)))), (1, .inl (v1)), (2, .inl (v2)), (3, .inl (v3)), (4, .inl (v4)), (5, .inl (v5))]) (st2 := [.inr (.inr (some (331))), .inl (v4)]) rfl ?_
        refine sd_b_gr (k := 36) sd_o_331 rfl rfl rfl ?_
        refine sd_b_go 1 (pc2 := 44) (lv2 := [(0, .inr (.inr (some (331)))), (1, .inl (v1)), (2, .inl (v2)), (3, .inl (v3)), (4, .inl (v4)), (5, .inl (v5))]) (st2 := [.inl (v5), .inr (.inr (some (351))), .inl (v4)]) rfl ?_
        obtain ⟨g4, h⟩ := sd_if h
        refine sd_b_ab (sd_oa sd_o_331 (by decide) (off := 20) (List.mem_of_getElem? (i := 19) rfl)) (by decide) g4 rfl ?_
        by_cases c5 : (M 351 v5.toNat) = 0
        · rw [if_pos c5] at h
          refine sd_b_zt (c := .eq) (tgt := 78) rfl (decide_eq_true c5) (by decide) ?_
          refine sd_b_wk [(0, .inr (.inr (some (331)))), (1, .inl (v1)), (2, .inl (v2)), (3, .inl (v3)), (5, .inl (v5))] (List.forall_mem_cons.mpr ⟨rfl, (List.forall_mem_cons.mpr ⟨rfl, (List.forall_mem_cons.mpr ⟨rfl, (List.forall_mem_cons.mpr ⟨rfl, (List.forall_mem_cons.mpr ⟨rfl, (fun _ h0 => absurd h0 List.not_mem_nil)⟩)⟩)⟩)⟩)⟩) ?_
          exact t_X10_alikeAt_78 hd (f_X10_alikeAt_18 k88 n) k88 ih hk88 v1 v2 v3 v5 v4 M _ h
        · rw [if_neg c5] at h
          refine sd_b_zf (c := .eq) rfl (decide_eq_false c5) (by decide) ?_
          refine sd_b_go 1 (pc2 := 49) (lv2 := [(0, .inr (.inr (some (331)))), (1, .inl (v1)), (2, .inl (v2)), (3, .inl (v3)), (4, .inl (v4)), (5, .inl (v5))]) (st2 := [.inr (.inr (some (331))), .inl (v4)]) rfl ?_
          refine sd_b_gr (k := 37) sd_o_331 rfl rfl rfl ?_
          refine sd_b_go 5 (pc2 := 58) (lv2 := [(0, .inr (.inr (some (331)))), (1, .inl (v1)), (2, .inl (v2)), (3, .inl (v3)), (4, .inl (v4)), (5, .inl (v5))]) (st2 := [.inl (sd_w ((sd_w (31 * v3)) + v1)), .inr (.inr (some (352))), .inl (v4)]) rfl ?_
          obtain ⟨g6, h⟩ := sd_if h
          refine sd_b_ai (sd_oa sd_o_331 (by decide) (off := 21) (List.mem_of_getElem? (i := 20) rfl)) g6 rfl ?_
          refine sd_b_go 1 (pc2 := 60) (lv2 := [(0, .inr (.inr (some (331)))), (1, .inl (v1)), (2, .inl (v2)), (3, .inl (v3)), (4, .inl (v4)), (5, .inl (v5))]) (st2 := [.inr (.inr (some (331))), .inl (M 352 (sd_w ((sd_w (31 * v3)) + v1)).toNat), .inl (v4)]) rfl ?_
          refine sd_b_gr (k := 37) sd_o_331 rfl rfl rfl ?_
          refine sd_b_go 5 (pc2 := 70) (lv2 := [(0, .inr (.inr (some (331)))), (1, .inl (v1)), (2, .inl (v2)), (3, .inl (v3)), (4, .inl (v4)), (5, .inl (v5))]) (st2 := [.inl (sd_w ((sd_w (31 * v5)) + v1)), .inr (.inr (some (352))), .inl (M 352 (sd_w ((sd_w (31 * v3)) + v1)).toNat), .inl (v4)]) rfl ?_
          obtain ⟨g7, h⟩ := sd_if h
          refine sd_b_ai (sd_oa sd_o_331 (by decide) (off := 21) (List.mem_of_getElem? (i := 20) rfl)) g7 rfl ?_
          by_cases c8 : (M 352 (sd_w ((sd_w (31 * v3)) + v1)).toNat) = (M 352 (sd_w ((sd_w (31 * v5)) + v1)).toNat)
          · rw [if_pos c8] at h
            refine sd_b_cf (c := .ne) rfl (decide_eq_false (not_not_intro c8)) (by decide) ?_
            refine sd_b_go 2 (pc2 := 79) (lv2 := [(0, .inr (.inr (some (331)))), (1, .inl (v1)), (2, .inl (v2)), (3, .inl (v3)), (4, .inl (v4)), (5, .inl (v5))]) (st2 := [.inl (1), .inl (v4)]) rfl ?_
            refine sd_b_wk [(0, .inr (.inr (some (331)))), (1, .inl (v1)), (2, .inl (v2)), (3, .inl (v3)), (5, .inl (v5))] (List.forall_mem_cons.mpr ⟨rfl, (List.forall_mem_cons.mpr ⟨rfl, (List.forall_mem_cons.mpr ⟨rfl, (List.forall_mem_cons.mpr ⟨rfl, (List.forall_mem_cons.mpr ⟨rfl, (fun _ h0 => absurd h0 List.not_mem_nil)⟩)⟩)⟩)⟩)⟩) ?_
            exact t_X10_alikeAt_79 hd (f_X10_alikeAt_18 k88 n) k88 ih hk88 v1 v2 v3 v5 1 v4 M _ h
          · rw [if_neg c8] at h
            refine sd_b_ct (c := .ne) (tgt := 78) rfl (decide_eq_true c8) (by decide) ?_
            refine sd_b_wk [(0, .inr (.inr (some (331)))), (1, .inl (v1)), (2, .inl (v2)), (3, .inl (v3)), (5, .inl (v5))] (List.forall_mem_cons.mpr ⟨rfl, (List.forall_mem_cons.mpr ⟨rfl, (List.forall_mem_cons.mpr ⟨rfl, (List.forall_mem_cons.mpr ⟨rfl, (List.forall_mem_cons.mpr ⟨rfl, (fun _ h0 => absurd h0 List.not_mem_nil)⟩)⟩)⟩)⟩)⟩) ?_
            exact t_X10_alikeAt_78 hd (f_X10_alikeAt_18 k88 n) k88 ih hk88 v1 v2 v3 v5 v4 M _ h
def f_X10_alikeAt_100 (k4 : Int → Int → Int → sd_M → Option (Int × sd_M)) (v1 : Int) (v3 : Int) (s0 : Int) (M : sd_M) : Option (Int × sd_M) := k4 v1 s0 (sd_w (v3 + 1)) M
set_option maxRecDepth 4000 in
theorem t_X10_alikeAt_100 {X : Nat → List sd_V → List sd_E → sd_A → Prop} {d : Nat} (hd : 0 ≤ d) (k4 : Int → Int → Int → sd_M → Option (Int × sd_M)) (hk4 : ∀ (v1 : Int) (v2 : Int) (v3 : Int) (M : sd_M) (Rr : Int × sd_M), k4 v1 v2 v3 M = some Rr → sd_B X d sd_q_X10_alikeAt 4 [(0, .inr (.inr (some (331)))), (1, .inl (v1)), (2, .inl (v2)), (3, .inl (v3))] [] M (some (.inl Rr.1), sd_rp Rr.2, 0, 0)) (v1 : Int) (v3 : Int) (s0 : Int) (M : sd_M) (Rr : Int × sd_M) (h : f_X10_alikeAt_100 k4 v1 v3 s0 M = some Rr) : sd_B X d sd_q_X10_alikeAt 100 [(0, .inr (.inr (some (331)))), (1, .inl (v1)), (3, .inl (v3))] [.inl (s0)] M (some (.inl Rr.1), sd_rp Rr.2, 0, 0) := by
  unfold f_X10_alikeAt_100 at h
  refine sd_b_go 3 (pc2 := 4) (lv2 := [(3, .inl (sd_w (v3 + 1))), (2, .inl (s0)), (0, .inr (.inr (some (331)))), (1, .inl (v1))]) (st2 := []) rfl ?_
  refine sd_b_wk [(0, .inr (.inr (some (331)))), (1, .inl (v1)), (2, .inl (s0)), (3, .inl (sd_w (v3 + 1)))] (List.forall_mem_cons.mpr ⟨rfl, (List.forall_mem_cons.mpr ⟨rfl, (List.forall_mem_cons.mpr ⟨rfl, (List.forall_mem_cons.mpr ⟨rfl, (fun _ h0 => absurd h0 List.not_mem_nil)⟩)⟩)⟩)⟩) ?_
  exact hk4 v1 s0 (sd_w (v3 + 1)) M _ h
def f_X10_alikeAt_88 (k4 : Int → Int → Int → sd_M → Option (Int × sd_M)) (v1 : Int) (v2 : Int) (v3 : Int) (v4 : Int) (M : sd_M) : Option (Int × sd_M) := if v4 ≤ v2 then (f_X10_alikeAt_100 k4 v1 v3 v2 M) else (f_X10_alikeAt_100 k4 v1 v3 v4 M)
set_option maxRecDepth 4000 in
theorem t_X10_alikeAt_88 {X : Nat → List sd_V → List sd_E → sd_A → Prop} {d : Nat} (hd : 0 ≤ d) (k4 : Int → Int → Int → sd_M → Option (Int × sd_M)) (hk4 : ∀ (v1 : Int) (v2 : Int) (v3 : Int) (M : sd_M) (Rr : Int × sd_M), k4 v1 v2 v3 M = some Rr → sd_B X d sd_q_X10_alikeAt 4 [(0, .inr (.inr (some (331)))), (1, .inl (v1)), (2, .inl (v2)), (3, .inl (v3))] [] M (some (.inl Rr.1), sd_rp Rr.2, 0, 0)) (v1 : Int) (v2 : Int) (v3 : Int) (v4 : Int) (M : sd_M) (Rr : Int × sd_M) (h : f_X10_alikeAt_88 k4 v1 v2 v3 v4 M = some Rr) : sd_B X d sd_q_X10_alikeAt 88 [(0, .inr (.inr (some (331)))), (1, .inl (v1)), (2, .inl (v2)), (3, .inl (v3)), (4, .inl (v4))] [] M (some (.inl Rr.1), sd_rp Rr.2, 0, 0) := by
  unfold f_X10_alikeAt_88 at h
  refine sd_b_go 2 (pc2 := 91) (lv2 := [(0, .inr (.inr (some (331)))), (1, .inl (v1)), (2, .inl (v2)), (3, .inl (v3)), (4, .inl (v4))]) (st2 := [.inl (v2), .inl (v4)]) rfl ?_
  by_cases c1 : v4 ≤ v2
  · rw [if_pos c1] at h
    refine sd_b_ct (c := .le) (tgt := 99) rfl (decide_eq_true c1) (by decide) ?_
    refine sd_b_go 1 (pc2 := 100) (lv2 := [(0, .inr (.inr (some (331)))), (1, .inl (v1)), (2, .inl (v2)), (3, .inl (v3)), (4, .inl (v4))]) (st2 := [.inl (v2)]) rfl ?_
    refine sd_b_wk [(0, .inr (.inr (some (331)))), (1, .inl (v1)), (3, .inl (v3))] (List.forall_mem_cons.mpr ⟨rfl, (List.forall_mem_cons.mpr ⟨rfl, (List.forall_mem_cons.mpr ⟨rfl, (fun _ h0 => absurd h0 List.not_mem_nil)⟩)⟩)⟩) ?_
    exact t_X10_alikeAt_100 hd k4 hk4 v1 v3 v2 M _ h
  · rw [if_neg c1] at h
    refine sd_b_cf (c := .le) rfl (decide_eq_false c1) (by decide) ?_
    refine sd_b_go 2 (pc2 := 100) (lv2 := [(0, .inr (.inr (some (331)))), (1, .inl (v1)), (2, .inl (v2)), (3, .inl (v3)), (4, .inl (v4))]) (st2 := [.inl (v4)]) rfl ?_
    refine sd_b_wk [(0, .inr (.inr (some (331)))), (1, .inl (v1)), (3, .inl (v3))] (List.forall_mem_cons.mpr ⟨rfl, (List.forall_mem_cons.mpr ⟨rfl, (List.forall_mem_cons.mpr ⟨rfl, (fun _ h0 => absurd h0 List.not_mem_nil)⟩)⟩)⟩) ?_
    exact t_X10_alikeAt_100 hd k4 hk4 v1 v3 v4 M _ h
def f_X10_alikeAt_4 : Nat → Int → Int → Int → sd_M → Option (Int × sd_M)
  | 0, _, _, _, _ => none
  | n + 1, v1, v2, v3, M => if (M 331 2) < v3 then (some (v2, M)) else (f_X10_alikeAt_18 (f_X10_alikeAt_88 (f_X10_alikeAt_4 n)) 4000 v1 v2 v3 0 0 M)
set_option maxRecDepth 4000 in
theorem t_X10_alikeAt_4 {X : Nat → List sd_V → List sd_E → sd_A → Prop} {d : Nat} (hd : 0 ≤ d) : ∀ (n : Nat) (v1 : Int) (v2 : Int) (v3 : Int) (M : sd_M) (Rr : Int × sd_M), f_X10_alikeAt_4 n v1 v2 v3 M = some Rr → sd_B X d sd_q_X10_alikeAt 4 [(0, .inr (.inr (some (331)))), (1, .inl (v1)), (2, .inl (v2)), (3, .inl (v3))] [] M (some (.inl Rr.1), sd_rp Rr.2, 0, 0) := by
  intro n
  induction n with
  | zero => intro v1 v2 v3 M Rr h; cases h
  | succ n ih =>
    intro v1 v2 v3 M Rr h
    rw [f_X10_alikeAt_4] at h
    refine sd_b_go 2 (pc2 := 6) (lv2 := [(0, .inr (.inr (some (331)))), (1, .inl (v1)), (2, .inl (v2)), (3, .inl (v3))]) (st2 := [.inr (.inr (some (331))), .inl (v3)]) rfl ?_
    refine sd_b_gi (k := 2) sd_o_331 rfl rfl rfl ?_
    by_cases c1 : (M 331 2) < v3
    · rw [if_pos c1] at h
      refine sd_b_ct (c := .gt) (tgt := 107) rfl (decide_eq_true c1) (by decide) ?_
      refine sd_b_go 1 (pc2 := 108) (lv2 := [(0, .inr (.inr (some (331)))), (1, .inl (v1)), (2, .inl (v2)), (3, .inl (v3))]) (st2 := [.inl (v2)]) rfl ?_
      cases h
      exact sd_b_rt rfl rfl rfl
    · rw [if_neg c1] at h
      refine sd_b_cf (c := .gt) rfl (decide_eq_false c1) (by decide) ?_
      refine sd_b_go 4 (pc2 := 18) (lv2 := [(5, .inl (0)), (4, .inl (0)), (0, .inr (.inr (some (331)))), (1, .inl (v1)), (2, .inl (v2)), (3, .inl (v3))]) (st2 := []) rfl ?_
      refine sd_b_wk [(0, .inr (.inr (some (331)))), (1, .inl (v1)), (2, .inl (v2)), (3, .inl (v3)), (4, .inl (0)), (5, .inl (0))] (List.forall_mem_cons.mpr ⟨rfl, (List.forall_mem_cons.mpr ⟨rfl, (List.forall_mem_cons.mpr ⟨rfl, (List.forall_mem_cons.mpr ⟨rfl, (List.forall_mem_cons.mpr ⟨rfl, (List.forall_mem_cons.mpr ⟨rfl, (fun _ h0 => absurd h0 List.not_mem_nil)⟩)⟩)⟩)⟩)⟩)⟩) ?_
      exact t_X10_alikeAt_18 hd (f_X10_alikeAt_88 (f_X10_alikeAt_4 n)) (t_X10_alikeAt_88 hd (f_X10_alikeAt_4 n) ih) 4000 v1 v2 v3 0 0 M _ h
def f_X10_alikeAt (p1 : Int) (M : sd_M) : Option (Int × sd_M) := f_X10_alikeAt_4 4000 p1 0 0 M
set_option maxRecDepth 4000 in
theorem t_X10_alikeAt {X : Nat → List sd_V → List sd_E → sd_A → Prop} {d : Nat} (hd : 0 ≤ d) (p1 : Int) (M : sd_M) (Rr : Int × sd_M) (h : f_X10_alikeAt p1 M = some Rr) : sd_B X d sd_q_X10_alikeAt 0 [(0, .inr (.inr (some (331)))), (1, .inl (p1))] [] M (some (.inl Rr.1), sd_rp Rr.2, 0, 0) := by
  unfold f_X10_alikeAt at h
  refine sd_b_go 4 (pc2 := 4) (lv2 := [(3, .inl (0)), (2, .inl (0)), (0, .inr (.inr (some (331)))), (1, .inl (p1))]) (st2 := []) rfl ?_
  refine sd_b_wk [(0, .inr (.inr (some (331)))), (1, .inl (p1)), (2, .inl (0)), (3, .inl (0))] (List.forall_mem_cons.mpr ⟨rfl, (List.forall_mem_cons.mpr ⟨rfl, (List.forall_mem_cons.mpr ⟨rfl, (List.forall_mem_cons.mpr ⟨rfl, (fun _ h0 => absurd h0 List.not_mem_nil)⟩)⟩)⟩)⟩) ?_
  exact t_X10_alikeAt_4 hd 4000 p1 0 0 M _ h
theorem m_X10_alikeAt {X : Nat → List sd_V → List sd_E → sd_A → Prop} {d : Nat} (hd : 1 ≤ d) {p1 : Int} {M : sd_M} {Rr : Int × sd_M} (h : f_X10_alikeAt p1 M = some Rr) : sd_Cal X d 238 [.inr (.inr (some (331))), .inl (p1)] (sd_rp M) (some (.inl Rr.1), sd_rp Rr.2, 0, 0) := by
  obtain ⟨d, rfl⟩ : ∃ d2, d = d2 + 1 := ⟨d - 1, by omega⟩
  exact sd_cal_of sd_i_X10_alikeAt (Nat.le_of_ble_eq_true rfl) (t_X10_alikeAt (by omega) p1 M Rr h)
-- X10_look
def sd_q_X10_look : sd_MI := (yX10_look, cX10_look, 6, (some .int), 10, 1, sd_t_X10_look)
set_option maxRecDepth 4000 in
theorem sd_i_X10_look : sd_mL[239]? = some sd_q_X10_look := rfl
def f_X10_look_71 (k32 : Int → Int → Int → Int → sd_M → Option (Int × sd_M)) (k77 : Int → Int → Int → sd_M → Option (Int × sd_M)) (v1 : Int) (v2 : Int) (v3 : Int) (v4 : Int) (M : sd_M) : Option (Int × sd_M) := k32 v1 v2 v3 (sd_w (v4 + 1)) M
set_option maxRecDepth 4000 in
theorem t_X10_look_71 {X : Nat → List sd_V → List sd_E → sd_A → Prop} {d : Nat} (hd : 9 ≤ d) (k32 : Int → Int → Int → Int → sd_M → Option (Int × sd_M)) (k77 : Int → Int → Int → sd_M → Option (Int × sd_M)) (hk32 : ∀ (v1 : Int) (v2 : Int) (v3 : Int) (v4 : Int) (M : sd_M) (Rr : Int × sd_M), k32 v1 v2 v3 v4 M = some Rr → sd_B X d sd_q_X10_look 32 [(0, .inr (.inr (some (331)))), (1, .inl (v1)), (2, .inl (v2)), (3, .inl (v3)), (4, .inl (v4))] [] M (some (.inl Rr.1), sd_rp Rr.2, 0, 0)) (hk77 : ∀ (v1 : Int) (v2 : Int) (v3 : Int) (M : sd_M) (Rr : Int × sd_M), k77 v1 v2 v3 M = some Rr → sd_B X d sd_q_X10_look 77 [(1, .inl (v1)), (2, .inl (v2)), (3, .inl (v3))] [] M (some (.inl Rr.1), sd_rp Rr.2, 0, 0)) (v1 : Int) (v2 : Int) (v3 : Int) (v4 : Int) (M : sd_M) (Rr : Int × sd_M) (h : f_X10_look_71 k32 k77 v1 v2 v3 v4 M = some Rr) : sd_B X d sd_q_X10_look 71 [(0, .inr (.inr (some (331)))), (1, .inl (v1)), (2, .inl (v2)), (3, .inl (v3)), (4, .inl (v4))] [] M (some (.inl Rr.1), sd_rp Rr.2, 0, 0) := by
  unfold f_X10_look_71 at h
  refine sd_b_go 2 (pc2 := 32) (lv2 := [(4, .inl (sd_w (v4 + 1))), (0, .inr (.inr (some (331)))), (1, .inl (v1)), (2, .inl (v2)), (3, .inl (v3))]) (st2 := []) rfl ?_
  refine sd_b_wk [(0, .inr (.inr (some (331)))), (1, .inl (v1)), (2, .inl (v2)), (3, .inl (v3)), (4, .inl (sd_w (v4 + 1)))] (List.forall_mem_cons.mpr ⟨rfl, (List.forall_mem_cons.mpr ⟨rfl, (List.forall_mem_cons.mpr ⟨rfl, (List.forall_mem_cons.mpr ⟨rfl, (List.forall_mem_cons.mpr ⟨rfl, (fun _ h0 => absurd h0 List.not_mem_nil)⟩)⟩)⟩)⟩)⟩) ?_
  exact hk32 v1 v2 v3 (sd_w (v4 + 1)) M _ h
def f_X10_look_65 (k32 : Int → Int → Int → Int → sd_M → Option (Int × sd_M)) (k77 : Int → Int → Int → sd_M → Option (Int × sd_M)) (v1 : Int) (v4 : Int) (v5 : Int) (M : sd_M) : Option (Int × sd_M) := f_X10_look_71 k32 k77 v1 v4 v5 v4 M
set_option maxRecDepth 4000 in
theorem t_X10_look_65 {X : Nat → List sd_V → List sd_E → sd_A → Prop} {d : Nat} (hd : 9 ≤ d) (k32 : Int → Int → Int → Int → sd_M → Option (Int × sd_M)) (k77 : Int → Int → Int → sd_M → Option (Int × sd_M)) (hk32 : ∀ (v1 : Int) (v2 : Int) (v3 : Int) (v4 : Int) (M : sd_M) (Rr : Int × sd_M), k32 v1 v2 v3 v4 M = some Rr → sd_B X d sd_q_X10_look 32 [(0, .inr (.inr (some (331)))), (1, .inl (v1)), (2, .inl (v2)), (3, .inl (v3)), (4, .inl (v4))] [] M (some (.inl Rr.1), sd_rp Rr.2, 0, 0)) (hk77 : ∀ (v1 : Int) (v2 : Int) (v3 : Int) (M : sd_M) (Rr : Int × sd_M), k77 v1 v2 v3 M = some Rr → sd_B X d sd_q_X10_look 77 [(1, .inl (v1)), (2, .inl (v2)), (3, .inl (v3))] [] M (some (.inl Rr.1), sd_rp Rr.2, 0, 0)) (v1 : Int) (v4 : Int) (v5 : Int) (M : sd_M) (Rr : Int × sd_M) (h : f_X10_look_65 k32 k77 v1 v4 v5 M = some Rr) : sd_B X d sd_q_X10_look 65 [(0, .inr (.inr (some (331)))), (1, .inl (v1)), (4, .inl (v4)), (5, .inl (v5))] [] M (some (.inl Rr.1), sd_rp Rr.2, 0, 0) := by
  unfold f_X10_look_65 at h
  refine sd_b_go 4 (pc2 := 71) (lv2 := [(3, .inl (v5)), (2, .inl (v4)), (0, .inr (.inr (some (331)))), (1, .inl (v1)), (4, .inl (v4)), (5, .inl (v5))]) (st2 := []) rfl ?_
  refine sd_b_wk [(0, .inr (.inr (some (331)))), (1, .inl (v1)), (2, .inl (v4)), (3, .inl (v5)), (4, .inl (v4))] (List.forall_mem_cons.mpr ⟨rfl, (List.forall_mem_cons.mpr ⟨rfl, (List.forall_mem_cons.mpr ⟨rfl, (List.forall_mem_cons.mpr ⟨rfl, (List.forall_mem_cons.mpr ⟨rfl, (fun _ h0 => absurd h0 List.not_mem_nil)⟩)⟩)⟩)⟩)⟩) ?_
  exact t_X10_look_71 hd k32 k77 hk32 hk77 v1 v4 v5 v4 M _ h
def f_X10_look_32 (k77 : Int → Int → Int → sd_M → Option (Int × sd_M)) : Nat → Int → Int → Int → Int → sd_M → Option (Int × sd_M)
  | 0, _, _, _, _, _ => none
  | n + 1, v1, v2, v3, v4, M => if 30 < v4 then (k77 v1 v2 v3 M) else ((f_X10_alikeAt v4 M).bind fun r2 => if r2.1 = 0 then (f_X10_look_71 (f_X10_look_32 k77 n) k77 v1 v2 v3 v4 r2.2) else (if v2 < 0 then (f_X10_look_65 (f_X10_look_32 k77 n) k77 v1 v4 r2.1 r2.2) else (if r2.1 < v3 then (f_X10_look_65 (f_X10_look_32 k77 n) k77 v1 v4 r2.1 r2.2) else (f_X10_look_71 (f_X10_look_32 k77 n) k77 v1 v2 v3 v4 r2.2))))
set_option maxRecDepth 4000 in
theorem t_X10_look_32 {X : Nat → List sd_V → List sd_E → sd_A → Prop} {d : Nat} (hd : 9 ≤ d) (k77 : Int → Int → Int → sd_M → Option (Int × sd_M)) (hk77 : ∀ (v1 : Int) (v2 : Int) (v3 : Int) (M : sd_M) (Rr : Int × sd_M), k77 v1 v2 v3 M = some Rr → sd_B X d sd_q_X10_look 77 [(1, .inl (v1)), (2, .inl (v2)), (3, .inl (v3))] [] M (some (.inl Rr.1), sd_rp Rr.2, 0, 0)) : ∀ (n : Nat) (v1 : Int) (v2 : Int) (v3 : Int) (v4 : Int) (M : sd_M) (Rr : Int × sd_M), f_X10_look_32 k77 n v1 v2 v3 v4 M = some Rr → sd_B X d sd_q_X10_look 32 [(0, .inr (.inr (some (331)))), (1, .inl (v1)), (2, .inl (v2)), (3, .inl (v3)), (4, .inl (v4))] [] M (some (.inl Rr.1), sd_rp Rr.2, 0, 0) := by
  intro n
  induction n with
  | zero => intro v1 v2 v3 v4 M Rr h; cases h
  | succ n ih =>
    intro v1 v2 v3 v4 M Rr h
    rw [f_X10_look_32] at h
    refine sd_b_go 2 (pc2 := 36) (lv2 := [(0, .inr (.inr (some (331)))), (1, .inl (v1)), (2, .inl (v2)), (3, .inl (v3)), (4, .inl (v4))]) (st2 := [.inl (30), .inl (v4)]) rfl ?_
    by_cases c1 : 30 < v4
    · rw [if_pos c1] at h
      refine sd_b_ct (c := .gt) (tgt := 77) rfl (decide_eq_true c1) (by decide) ?_
      refine sd_b_wk [(1, .inl (v1)), (2, .inl (v2)), (3, .inl (v3))] (List.forall_mem_cons.mpr ⟨rfl, (List.forall_mem_cons.mpr ⟨rfl, (List.forall_mem_cons.mpr ⟨rfl, (fun _ h0 => absurd h0 List.not_mem_nil)⟩)⟩)⟩) ?_
      exact hk77 v1 v2 v3 M _ h
    · rw [if_neg c1] at h
      refine sd_b_cf (c := .gt) rfl (decide_eq_false c1) (by decide) ?_
      refine sd_b_go 2 (pc2 := 42) (lv2 := [(0, .inr (.inr (some (331)))), (1, .inl (v1)), (2, .inl (v2)), (3, .inl (v3)), (4, .inl (v4))]) (st2 := [.inl (v4), .inr (.inr (some (331)))]) rfl ?_
      obtain ⟨r2, e2, h⟩ := sd_bnd h
      refine sd_b_call [.inr (.inr (some (331))), .inl (v4)] [] rfl rfl sd_i_X10_alikeAt rfl rfl (Nat.le_of_ble_eq_true rfl) (sd_rc_v sd_o_331) (m_X10_alikeAt (by omega) e2) ?_
      refine sd_b_go 2 (pc2 := 49) (lv2 := [(5, .inl (r2.1)), (0, .inr (.inr (some (331)))), (1, .inl (v1)), (2, .inl (v2)), (3, .inl (v3)), (4, .inl (v4))]) (st2 := [.inl (r2.1)]) rfl ?_
      by_cases c3 : r2.1 = 0
      · rw [if_pos c3] at h
        refine sd_b_zt (c := .eq) (tgt := 71) rfl (decide_eq_true c3) (by decide) ?_
        refine sd_b_wk [(0, .inr (.inr (some (331)))), (1, .inl (v1)), (2, .inl (v2)), (3, .inl (v3)), (4, .inl (v4))] (List.forall_mem_cons.mpr ⟨rfl, (List.forall_mem_cons.mpr ⟨rfl, (List.forall_mem_cons.mpr ⟨rfl, (List.forall_mem_cons.mpr ⟨rfl, (List.forall_mem_cons.mpr ⟨rfl, (fun _ h0 => absurd h0 List.not_mem_nil)⟩)⟩)⟩)⟩)⟩) ?_
        exact t_X10_look_71 hd (f_X10_look_32 k77 n) k77 ih hk77 v1 v2 v3 v4 r2.2 _ h
      · rw [if_neg c3] at h
        refine sd_b_zf (c := .eq) rfl (decide_eq_false c3) (by decide) ?_
        refine sd_b_go 1 (pc2 := 53) (lv2 := [(5, .inl (r2.1)), (0, .inr (.inr (some (331)))), (1, .inl (v1)), (2, .inl (v2)), (3, .inl (v3)), (4, .inl (v4))]) (st2 := [.inl (v2)]) rfl ?_
        by_cases c4 : v2 < 0
        · rw [if_pos c4] at h
          refine sd_b_zt (c := .lt) (tgt := 65) rfl (decide_eq_true c4) (by decide) ?_
          refine sd_b_wk [(0, .inr (.inr (some (331)))), (1, .inl (v1)), (4, .inl (v4)), (5, .inl (r2.1))] (List.forall_mem_cons.mpr ⟨rfl, (List.forall_mem_cons.mpr ⟨rfl, (List.forall_mem_cons.mpr ⟨rfl, (List.forall_mem_cons.mpr ⟨rfl, (fun _ h0 => absurd h0 List.not_mem_nil)⟩)⟩)⟩)⟩) ?_
          exact t_X10_look_65 hd (f_X10_look_32 k77 n) k77 ih hk77 v1 v4 r2.1 r2.2 _ h
        · rw [if_neg c4] at h
          refine sd_b_zf (c := .lt) rfl (decide_eq_false c4) (by decide) ?_
          refine sd_b_go 2 (pc2 := 59) (lv2 := [(5, .inl (r2.1)), (0, .inr (.inr (some (331)))), (1, .inl (v1)), (2, .inl (v2)), (3, .inl (v3)), (4, .inl (v4))]) (st2 := [.inl (v3), .inl (r2.1)]) rfl ?_
          by_cases c5 : r2.1 < v3
          · rw [if_pos c5] at h
            refine sd_b_ct (c := .lt) (tgt := 65) rfl (decide_eq_true c5) (by decide) ?_
            refine sd_b_wk [(0, .inr (.inr (some (331)))), (1, .inl (v1)), (4, .inl (v4)), (5, .inl (r2.1))] (List.forall_mem_cons.mpr ⟨rfl, (List.forall_mem_cons.mpr ⟨rfl, (List.forall_mem_cons.mpr ⟨rfl, (List.forall_mem_cons.mpr ⟨rfl, (fun _ h0 => absurd h0 List.not_mem_nil)⟩)⟩)⟩)⟩) ?_
            exact t_X10_look_65 hd (f_X10_look_32 k77 n) k77 ih hk77 v1 v4 r2.1 r2.2 _ h
          · rw [if_neg c5] at h
            refine sd_b_cf (c := .lt) rfl (decide_eq_false c5) (by decide) ?_
            refine sd_b_go 1 (pc2 := 71) (lv2 := [(5, .inl (r2.1)), (0, .inr (.inr (some (331)))), (1, .inl (v1)), (2, .inl (v2)), (3, .inl (v3)), (4, .inl (v4))]) (st2 := []) rfl ?_
            refine sd_b_wk [(0, .inr (.inr (some (331)))), (1, .inl (v1)), (2, .inl (v2)), (3, .inl (v3)), (4, .inl (v4))] (List.forall_mem_cons.mpr ⟨rfl, (List.forall_mem_cons.mpr ⟨rfl, (List.forall_mem_cons.mpr ⟨rfl, (List.forall_mem_cons.mpr ⟨rfl, (List.forall_mem_cons.mpr ⟨rfl, (fun _ h0 => absurd h0 List.not_mem_nil)⟩)⟩)⟩)⟩)⟩) ?_
            exact t_X10_look_71 hd (f_X10_look_32 k77 n) k77 ih hk77 v1 v2 v3 v4 r2.2 _ h
def f_X10_look_77 (v1 : Int) (v2 : Int) (v3 : Int) (M : sd_M) : Option (Int × sd_M) := if v1 = 0 then (some (v2, M)) else (some (v3, M))
set_option maxRecDepth 4000 in
theorem t_X10_look_77 {X : Nat → List sd_V → List sd_E → sd_A → Prop} {d : Nat} (hd : 9 ≤ d) (v1 : Int) (v2 : Int) (v3 : Int) (M : sd_M) (Rr : Int × sd_M) (h : f_X10_look_77 v1 v2 v3 M = some Rr) : sd_B X d sd_q_X10_look 77 [(1, .inl (v1)), (2, .inl (v2)), (3, .inl (v3))] [] M (some (.inl Rr.1), sd_rp Rr.2, 0, 0) := by
  unfold f_X10_look_77 at h
  refine sd_b_go 1 (pc2 := 78) (lv2 := [(1, .inl (v1)), (2, .inl (v2)), (3, .inl (v3))]) (st2 := [.inl (v1)]) rfl ?_
  by_cases c1 : v1 = 0
  · rw [if_pos c1] at h
    refine sd_b_zf (c := .ne) rfl (decide_eq_false (not_not_intro c1)) (by decide) ?_
    refine sd_b_go 2 (pc2 := 86) (lv2 := [(1, .inl (v1)), (2, .inl (v2)), (3, .inl (v3))]) (st2 := [.inl (v2)]) rfl ?_
    cases h
    exact sd_b_rt rfl rfl rfl
  · rw [if_neg c1] at h
    refine sd_b_zt (c := .ne) (tgt := 85) rfl (decide_eq_true c1) (by decide) ?_
    refine sd_b_go 1 (pc2 := 86) (lv2 := [(1, .inl (v1)), (2, .inl (v2)), (3, .inl (v3))]) (st2 := [.inl (v3)]) rfl ?_
    cases h
    exact sd_b_rt rfl rfl rfl
def f_X10_look (p1 : Int) (M : sd_M) : Option (Int × sd_M) := (f_X10_isSlip M).bind fun r1 => if r1.1 = 0 then (some ((-1), r1.2)) else ((f_X10_in p1 0 1 r1.2).bind fun r3 => if r3.1 = 0 then (some ((-1), r3.2)) else ((f_X10_fillsFits r3.2).bind fun r5 => f_X10_look_32 (f_X10_look_77) 4000 p1 ((-2)) ((-2)) 0 r5.2))
set_option maxRecDepth 4000 in
theorem t_X10_look {X : Nat → List sd_V → List sd_E → sd_A → Prop} {d : Nat} (hd : 9 ≤ d) (p1 : Int) (M : sd_M) (Rr : Int × sd_M) (h : f_X10_look p1 M = some Rr) : sd_B X d sd_q_X10_look 0 [(0, .inr (.inr (some (331)))), (1, .inl (p1))] [] M (some (.inl Rr.1), sd_rp Rr.2, 0, 0) := by
  unfold f_X10_look at h
  refine sd_b_go 1 (pc2 := 1) (lv2 := [(0, .inr (.inr (some (331)))), (1, .inl (p1))]) (st2 := [.inr (.inr (some (331)))]) rfl ?_
  obtain ⟨r1, e1, h⟩ := sd_bnd h
  refine sd_b_call [.inr (.inr (some (331)))] [] rfl rfl sd_i_X10_isSlip rfl rfl (Nat.le_of_ble_eq_true rfl) (sd_rc_v sd_o_331) (m_X10_isSlip (by omega) e1) ?_
  by_cases c2 : r1.1 = 0
  · rw [if_pos c2] at h
    refine sd_b_zt (c := .eq) (tgt := 17) rfl (decide_eq_true c2) (by decide) ?_
    refine sd_b_go 1 (pc2 := 18) (lv2 := [(0, .inr (.inr (some (331)))), (1, .inl (p1))]) (st2 := [.inl ((-1))]) rfl ?_
    cases h
    exact sd_b_rt rfl rfl rfl
  · rw [if_neg c2] at h
    refine sd_b_zf (c := .eq) rfl (decide_eq_false c2) (by decide) ?_
    refine sd_b_go 4 (pc2 := 11) (lv2 := [(0, .inr (.inr (some (331)))), (1, .inl (p1))]) (st2 := [.inr (.inl (1)), .inr (.inl (0)), .inr (.inl (p1))]) rfl ?_
    obtain ⟨r3, e3, h⟩ := sd_bnd h
    refine sd_b_call [.inr (.inl (p1)), .inr (.inl (0)), .inr (.inl (1))] [] rfl rfl sd_i_X10_in rfl rfl (Nat.le_of_ble_eq_true rfl) rfl (m_X10_in (by omega) e3) ?_
    by_cases c4 : r3.1 = 0
    · rw [if_pos c4] at h
      refine sd_b_zf (c := .ne) rfl (decide_eq_false (not_not_intro c4)) (by decide) ?_
      refine sd_b_go 1 (pc2 := 18) (lv2 := [(0, .inr (.inr (some (331)))), (1, .inl (p1))]) (st2 := [.inl ((-1))]) rfl ?_
      cases h
      exact sd_b_rt rfl rfl rfl
    · rw [if_neg c4] at h
      refine sd_b_zt (c := .ne) (tgt := 19) rfl (decide_eq_true c4) (by decide) ?_
      refine sd_b_go 1 (pc2 := 20) (lv2 := [(0, .inr (.inr (some (331)))), (1, .inl (p1))]) (st2 := [.inr (.inr (some (331)))]) rfl ?_
      obtain ⟨r5, e5, h⟩ := sd_bnd h
      refine sd_b_call [.inr (.inr (some (331)))] [] rfl rfl sd_i_X10_fillsFits rfl rfl (Nat.le_of_ble_eq_true rfl) (sd_rc_v sd_o_331) (m_X10_fillsFits (by omega) e5) ?_
      refine sd_b_go 6 (pc2 := 32) (lv2 := [(4, .inl (0)), (3, .inl ((-2))), (2, .inl ((-2))), (0, .inr (.inr (some (331)))), (1, .inl (p1))]) (st2 := []) rfl ?_
      refine sd_b_wk [(0, .inr (.inr (some (331)))), (1, .inl (p1)), (2, .inl ((-2))), (3, .inl ((-2))), (4, .inl (0))] (List.forall_mem_cons.mpr ⟨rfl, (List.forall_mem_cons.mpr ⟨rfl, (List.forall_mem_cons.mpr ⟨rfl, (List.forall_mem_cons.mpr ⟨rfl, (List.forall_mem_cons.mpr ⟨rfl, (fun _ h0 => absurd h0 List.not_mem_nil)⟩)⟩)⟩)⟩)⟩) ?_
      exact t_X10_look_32 hd (f_X10_look_77) (t_X10_look_77 hd) 4000 p1 ((-2)) ((-2)) 0 r5.2 _ h
theorem m_X10_look {X : Nat → List sd_V → List sd_E → sd_A → Prop} {d : Nat} (hd : 10 ≤ d) {p1 : Int} {M : sd_M} {Rr : Int × sd_M} (h : f_X10_look p1 M = some Rr) : sd_Cal X d 239 [.inr (.inr (some (331))), .inl (p1)] (sd_rp M) (some (.inl Rr.1), sd_rp Rr.2, 0, 0) := by
  obtain ⟨d, rfl⟩ : ∃ d2, d = d2 + 1 := ⟨d - 1, by omega⟩
  exact sd_cal_of sd_i_X10_look (Nat.le_of_ble_eq_true rfl) (t_X10_look (by omega) p1 M Rr h)
-- X10_sizes
def sd_q_X10_sizes : sd_MI := (yX10_sizes, cX10_sizes, 7, (some .int), 10, 2, sd_t_X10_sizes)
set_option maxRecDepth 4000 in
theorem sd_i_X10_sizes : sd_mL[240]? = some sd_q_X10_sizes := rfl
def f_X10_sizes_83 (k44 : Int → Int → Int → Int → Int → Int → sd_M → Option (Int × sd_M)) (k89 : Int → Int → Int → Int → Int → sd_M → Option (Int × sd_M)) (v1 : Int) (v2 : Int) (v3 : Int) (v4 : Int) (v5 : Int) (v6 : Int) (M : sd_M) : Option (Int × sd_M) := k44 v1 v2 v3 v4 v5 (sd_w (v6 + (-1))) M
set_option maxRecDepth 4000 in
theorem t_X10_sizes_83 {X : Nat → List sd_V → List sd_E → sd_A → Prop} {d : Nat} (hd : 8 ≤ d) (k44 : Int → Int → Int → Int → Int → Int → sd_M → Option (Int × sd_M)) (k89 : Int → Int → Int → Int → Int → sd_M → Option (Int × sd_M)) (hk44 : ∀ (v1 : Int) (v2 : Int) (v3 : Int) (v4 : Int) (v5 : Int) (v6 : Int) (M : sd_M) (Rr : Int × sd_M), k44 v1 v2 v3 v4 v5 v6 M = some Rr → sd_B X d sd_q_X10_sizes 44 [(0, .inr (.inr (some (331)))), (1, .inl (v1)), (2, .inl (v2)), (3, .inl (v3)), (4, .inl (v4)), (5, .inl (v5)), (6, .inl (v6))] [] M (some (.inl Rr.1), sd_rp Rr.2, 0, 0)) (hk89 : ∀ (v1 : Int) (v2 : Int) (v3 : Int) (v4 : Int) (v5 : Int) (M : sd_M) (Rr : Int × sd_M), k89 v1 v2 v3 v4 v5 M = some Rr → sd_B X d sd_q_X10_sizes 89 [(0, .inr (.inr (some (331)))), (1, .inl (v1)), (2, .inl (v2)), (3, .inl (v3)), (4, .inl (v4)), (5, .inl (v5))] [] M (some (.inl Rr.1), sd_rp Rr.2, 0, 0)) (v1 : Int) (v2 : Int) (v3 : Int) (v4 : Int) (v5 : Int) (v6 : Int) (M : sd_M) (Rr : Int × sd_M) (h : f_X10_sizes_83 k44 k89 v1 v2 v3 v4 v5 v6 M = some Rr) : sd_B X d sd_q_X10_sizes 83 [(0, .inr (.inr (some (331)))), (1, .inl (v1)), (2, .inl (v2)), (3, .inl (v3)), (4, .inl (v4)), (5, .inl (v5)), (6, .inl (v6))] [] M (some (.inl Rr.1), sd_rp Rr.2, 0, 0) := by
  unfold f_X10_sizes_83 at h
  refine sd_b_go 2 (pc2 := 44) (lv2 := [(6, .inl (sd_w (v6 + (-1)))), (0, .inr (.inr (some (331)))), (1, .inl (v1)), (2, .inl (v2)), (3, .inl (v3)), (4, .inl (v4)), (5, .inl (v5))]) (st2 := []) rfl ?_
  refine sd_b_wk [(0, .inr (.inr (some (331)))), (1, .inl (v1)), (2, .inl (v2)), (3, .inl (v3)), (4, .inl (v4)), (5, .inl (v5)), (6, .inl (sd_w (v6 + (-1))))] (List.forall_mem_cons.mpr ⟨rfl, (List.forall_mem_cons.mpr ⟨rfl, (List.forall_mem_cons.mpr ⟨rfl, (List.forall_mem_cons.mpr ⟨rfl, (List.forall_mem_cons.mpr ⟨rfl, (List.forall_mem_cons.mpr ⟨rfl, (List.forall_mem_cons.mpr ⟨rfl, (fun _ h0 => absurd h0 List.not_mem_nil)⟩)⟩)⟩)⟩)⟩)⟩)⟩) ?_
  exact hk44 v1 v2 v3 v4 v5 (sd_w (v6 + (-1))) M _ h
def f_X10_sizes_44 (k89 : Int → Int → Int → Int → Int → sd_M → Option (Int × sd_M)) : Nat → Int → Int → Int → Int → Int → Int → sd_M → Option (Int × sd_M)
  | 0, _, _, _, _, _, _, _ => none
  | n + 1, v1, v2, v3, v4, v5, v6, M => if v6 ≤ 0 then (k89 v1 v2 v3 v4 v5 M) else (if 0 ≤ (sd_w (4 + v1)) ∧ (sd_w (4 + v1)) < 128 then ((f_X10_areAllSo 0 (sd_s M 341 (sd_w (4 + v1)).toNat (sd_w (10 * v6)))).bind fun r3 => if r3.1 = 0 then (f_X10_sizes_83 (f_X10_sizes_44 k89 n) k89 v1 v2 v3 v4 v5 v6 r3.2) else (f_X10_sizes_83 (f_X10_sizes_44 k89 n) k89 v1 v2 v3 (sd_w (v4 + 1)) (sd_w (10 * v6)) v6 r3.2)) else none)
set_option maxRecDepth 4000 in
theorem t_X10_sizes_44 {X : Nat → List sd_V → List sd_E → sd_A → Prop} {d : Nat} (hd : 8 ≤ d) (k89 : Int → Int → Int → Int → Int → sd_M → Option (Int × sd_M)) (hk89 : ∀ (v1 : Int) (v2 : Int) (v3 : Int) (v4 : Int) (v5 : Int) (M : sd_M) (Rr : Int × sd_M), k89 v1 v2 v3 v4 v5 M = some Rr → sd_B X d sd_q_X10_sizes 89 [(0, .inr (.inr (some (331)))), (1, .inl (v1)), (2, .inl (v2)), (3, .inl (v3)), (4, .inl (v4)), (5, .inl (v5))] [] M (some (.inl Rr.1), sd_rp Rr.2, 0, 0)) : ∀ (n : Nat) (v1 : Int) (v2 : Int) (v3 : Int) (v4 : Int) (v5 : Int) (v6 : Int) (M : sd_M) (Rr : Int × sd_M), f_X10_sizes_44 k89 n v1 v2 v3 v4 v5 v6 M = some Rr → sd_B X d sd_q_X10_sizes 44 [(0, .inr (.inr (some (331)))), (1, .inl (v1)), (2, .inl (v2)), (3, .inl (v3)), (4, .inl (v4)), (5, .inl (v5)), (6, .inl (v6))] [] M (some (.inl Rr.1), sd_rp Rr.2, 0, 0) := by
  intro n
  induction n with
  | zero => intro v1 v2 v3 v4 v5 v6 M Rr h; cases h
  | succ n ih =>
    intro v1 v2 v3 v4 v5 v6 M Rr h
    rw [f_X10_sizes_44] at h
    refine sd_b_go 1 (pc2 := 46) (lv2 := [(0, .inr (.inr (some (331)))), (1, .inl (v1)), (2, .inl (v2)), (3, .inl (v3)), (4, .inl (v4)), (5, .inl (v5)), (6, .inl (v6))]) (st2 := [.inl (v6)]) rfl ?_
    by_cases c1 : v6 ≤ 0
    · rw [if_pos c1] at h
      refine sd_b_zt (c := .le) (tgt := 89) rfl (decide_eq_true c1) (by decide) ?_
      refine sd_b_wk [(0, .inr (.inr (some (331)))), (1, .inl (v1)), (2, .inl (v2)), (3, .inl (v3)), (4, .inl (v4)), (5, .inl (v5))] (List.forall_mem_cons.mpr ⟨rfl, (List.forall_mem_cons.mpr ⟨rfl, (List.forall_mem_cons.mpr ⟨rfl, (List.forall_mem_cons.mpr ⟨rfl, (List.forall_mem_cons.mpr ⟨rfl, (List.forall_mem_cons.mpr ⟨rfl, (fun _ h0 => absurd h0 List.not_mem_nil)⟩)⟩)⟩)⟩)⟩)⟩) ?_
      exact hk89 v1 v2 v3 v4 v5 M _ h
    · rw [if_neg c1] at h
      refine sd_b_zf (c := .le) rfl (decide_eq_false c1) (by decide) ?_
      refine sd_b_go 1 (pc2 := 50) (lv2 := [(0, .inr (.inr (some (331)))), (1, .inl (v1)), (2, .inl (v2)), (3, .inl (v3)), (4, .inl (v4)), (5, .inl (v5)), (6, .inl (v6))]) (st2 := [.inr (.inr (some (331)))]) rfl ?_
      refine sd_b_gr (k := 20) sd_o_331 rfl rfl rfl ?_
      refine sd_b_go 6 (pc2 := 61) (lv2 := [(0, .inr (.inr (some (331)))), (1, .inl (v1)), (2, .inl (v2)), (3, .inl (v3)), (4, .inl (v4)), (5, .inl (v5)), (6, .inl (v6))]) (st2 := [.inl (sd_w (10 * v6)), .inl (sd_w (4 + v1)), .inr (.inr (some (341)))]) rfl ?_
      obtain ⟨g2, h⟩ := sd_if h
      refine sd_b_si (sd_oa sd_o_331 (by decide) (off := 10) (List.mem_of_getElem? (i := 9) rfl)) g2 rfl ?_
      refine sd_b_go 2 (pc2 := 64) (lv2 := [(0, .inr (.inr (some (331)))), (1, .inl (v1)), (2, .inl (v2)), (3, .inl (v3)), (4, .inl (v4)), (5, .inl (v5)), (6, .inl (v6))]) (st2 := [.inl (0), .inr (.inr (some (331)))]) rfl ?_
      obtain ⟨r3, e3, h⟩ := sd_bnd h
      refine sd_b_call [.inr (.inr (some (331))), .inl (0)] [] rfl rfl sd_i_X10_areAllSo rfl rfl (Nat.le_of_ble_eq_true rfl) (sd_rc_v sd_o_331) (m_X10_areAllSo (by omega) e3) ?_
      by_cases c4 : r3.1 = 0
      · rw [if_pos c4] at h
        refine sd_b_zf (c := .ne) rfl (decide_eq_false (not_not_intro c4)) (by decide) ?_
        refine sd_b_go 1 (pc2 := 83) (lv2 := [(0, .inr (.inr (some (331)))), (1, .inl (v1)), (2, .inl (v2)), (3, .inl (v3)), (4, .inl (v4)), (5, .inl (v5)), (6, .inl (v6))]) (st2 := []) rfl ?_
        refine sd_b_wk [(0, .inr (.inr (some (331)))), (1, .inl (v1)), (2, .inl (v2)), (3, .inl (v3)), (4, .inl (v4)), (5, .inl (v5)), (6, .inl (v6))] (List.forall_mem_cons.mpr ⟨rfl, (List.forall_mem_cons.mpr ⟨rfl, (List.forall_mem_cons.mpr ⟨rfl, (List.forall_mem_cons.mpr ⟨rfl, (List.forall_mem_cons.mpr ⟨rfl, (List.forall_mem_cons.mpr ⟨rfl, (List.forall_mem_cons.mpr ⟨rfl, (fun _ h0 => absurd h0 List.not_mem_nil)⟩)⟩)⟩)⟩)⟩)⟩)⟩) ?_
        exact t_X10_sizes_83 hd (f_X10_sizes_44 k89 n) k89 ih hk89 v1 v2 v3 v4 v5 v6 r3.2 _ h
      · rw [if_neg c4] at h
        refine sd_b_zt (c := .ne) (tgt := 73) rfl (decide_eq_true c4) (by decide) ?_
        refine sd_b_go 5 (pc2 := 83) (lv2 := [(4, .inl (sd_w (v4 + 1))), (5, .inl (sd_w (10 * v6))), (0, .inr (.inr (some (331)))), (1, .inl (v1)), (2, .inl (v2)), (3, .inl (v3)), (6, .inl (v6))]) (st2 := []) rfl ?_
        refine sd_b_wk [(0, .inr (.inr (some (331)))), (1, .inl (v1)), (2, .inl (v2)), (3, .inl (v3)), (4, .inl (sd_w (v4 + 1))), (5, .inl (sd_w (10 * v6))), (6, .inl (v6))] (List.forall_mem_cons.mpr ⟨rfl, (List.forall_mem_cons.mpr ⟨rfl, (List.forall_mem_cons.mpr ⟨rfl, (List.forall_mem_cons.mpr ⟨rfl, (List.forall_mem_cons.mpr ⟨rfl, (List.forall_mem_cons.mpr ⟨rfl, (List.forall_mem_cons.mpr ⟨rfl, (fun _ h0 => absurd h0 List.not_mem_nil)⟩)⟩)⟩)⟩)⟩)⟩)⟩) ?_
        exact t_X10_sizes_83 hd (f_X10_sizes_44 k89 n) k89 ih hk89 v1 v2 v3 (sd_w (v4 + 1)) (sd_w (10 * v6)) v6 r3.2 _ h
def f_X10_sizes_89 (v1 : Int) (v2 : Int) (v3 : Int) (v4 : Int) (v5 : Int) (M : sd_M) : Option (Int × sd_M) := if 0 ≤ (sd_w (4 + v1)) ∧ (sd_w (4 + v1)) < 128 then ((f_X10_laysBack (sd_s M 341 (sd_w (4 + v1)).toNat v3)).bind fun r2 => if v2 = 0 then (some (v4, r2.2)) else (some (v5, r2.2))) else none
set_option maxRecDepth 4000 in
theorem t_X10_sizes_89 {X : Nat → List sd_V → List sd_E → sd_A → Prop} {d : Nat} (hd : 8 ≤ d) (v1 : Int) (v2 : Int) (v3 : Int) (v4 : Int) (v5 : Int) (M : sd_M) (Rr : Int × sd_M) (h : f_X10_sizes_89 v1 v2 v3 v4 v5 M = some Rr) : sd_B X d sd_q_X10_sizes 89 [(0, .inr (.inr (some (331)))), (1, .inl (v1)), (2, .inl (v2)), (3, .inl (v3)), (4, .inl (v4)), (5, .inl (v5))] [] M (some (.inl Rr.1), sd_rp Rr.2, 0, 0) := by
  unfold f_X10_sizes_89 at h
  refine sd_b_go 1 (pc2 := 90) (lv2 := [(0, .inr (.inr (some (331)))), (1, .inl (v1)), (2, .inl (v2)), (3, .inl (v3)), (4, .inl (v4)), (5, .inl (v5))]) (st2 := [.inr (.inr (some (331)))]) rfl ?_
  refine sd_b_gr (k := 20) sd_o_331 rfl rfl rfl ?_
  refine sd_b_go 4 (pc2 := 97) (lv2 := [(0, .inr (.inr (some (331)))), (1, .inl (v1)), (2, .inl (v2)), (3, .inl (v3)), (4, .inl (v4)), (5, .inl (v5))]) (st2 := [.inl (v3), .inl (sd_w (4 + v1)), .inr (.inr (some (341)))]) rfl ?_
  obtain ⟨g1, h⟩ := sd_if h
  refine sd_b_si (sd_oa sd_o_331 (by decide) (off := 10) (List.mem_of_getElem? (i := 9) rfl)) g1 rfl ?_
  refine sd_b_go 1 (pc2 := 99) (lv2 := [(0, .inr (.inr (some (331)))), (1, .inl (v1)), (2, .inl (v2)), (3, .inl (v3)), (4, .inl (v4)), (5, .inl (v5))]) (st2 := [.inr (.inr (some (331)))]) rfl ?_
  obtain ⟨r2, e2, h⟩ := sd_bnd h
  refine sd_b_call [.inr (.inr (some (331)))] [] rfl rfl sd_i_X10_laysBack rfl rfl (Nat.le_of_ble_eq_true rfl) (sd_rc_v sd_o_331) (m_X10_laysBack (by omega) e2) ?_
  refine sd_b_go 1 (pc2 := 103) (lv2 := [(0, .inr (.inr (some (331)))), (1, .inl (v1)), (2, .inl (v2)), (3, .inl (v3)), (4, .inl (v4)), (5, .inl (v5))]) (st2 := [.inl (v2)]) rfl ?_
  by_cases c3 : v2 = 0
  · rw [if_pos c3] at h
    refine sd_b_zf (c := .ne) rfl (decide_eq_false (not_not_intro c3)) (by decide) ?_
    refine sd_b_go 2 (pc2 := 113) (lv2 := [(0, .inr (.inr (some (331)))), (1, .inl (v1)), (2, .inl (v2)), (3, .inl (v3)), (4, .inl (v4)), (5, .inl (v5))]) (st2 := [.inl (v4)]) rfl ?_
    cases h
    exact sd_b_rt rfl rfl rfl
  · rw [if_neg c3] at h
    refine sd_b_zt (c := .ne) (tgt := 111) rfl (decide_eq_true c3) (by decide) ?_
    refine sd_b_go 1 (pc2 := 113) (lv2 := [(0, .inr (.inr (some (331)))), (1, .inl (v1)), (2, .inl (v2)), (3, .inl (v3)), (4, .inl (v4)), (5, .inl (v5))]) (st2 := [.inl (v5)]) rfl ?_
    cases h
    exact sd_b_rt rfl rfl rfl
def f_X10_sizes (p1 : Int) (p2 : Int) (M : sd_M) : Option (Int × sd_M) := (f_X10_isOffer p1 M).bind fun r1 => if r1.1 = 0 then (some ((-1), r1.2)) else ((f_X10_in p2 0 1 r1.2).bind fun r3 => if r3.1 = 0 then (some ((-1), r3.2)) else (if 0 ≤ (sd_w (4 + p1)) ∧ (sd_w (4 + p1)) < 128 then ((f_X10_keeps r3.2).bind fun r6 => f_X10_sizes_44 (f_X10_sizes_89) 4000 p1 p2 ((r3.2) 341 (sd_w (4 + p1)).toNat) 0 ((-2)) 99 r6.2) else none))
set_option maxRecDepth 4000 in
theorem t_X10_sizes {X : Nat → List sd_V → List sd_E → sd_A → Prop} {d : Nat} (hd : 8 ≤ d) (p1 : Int) (p2 : Int) (M : sd_M) (Rr : Int × sd_M) (h : f_X10_sizes p1 p2 M = some Rr) : sd_B X d sd_q_X10_sizes 0 [(0, .inr (.inr (some (331)))), (1, .inl (p1)), (2, .inl (p2))] [] M (some (.inl Rr.1), sd_rp Rr.2, 0, 0) := by
  unfold f_X10_sizes at h
  refine sd_b_go 2 (pc2 := 2) (lv2 := [(0, .inr (.inr (some (331)))), (1, .inl (p1)), (2, .inl (p2))]) (st2 := [.inl (p1), .inr (.inr (some (331)))]) rfl ?_
  obtain ⟨r1, e1, h⟩ := sd_bnd h
  refine sd_b_call [.inr (.inr (some (331))), .inl (p1)] [] rfl rfl sd_i_X10_isOffer rfl rfl (Nat.le_of_ble_eq_true rfl) (sd_rc_v sd_o_331) (m_X10_isOffer (by omega) e1) ?_
  by_cases c2 : r1.1 = 0
  · rw [if_pos c2] at h
    refine sd_b_zt (c := .eq) (tgt := 18) rfl (decide_eq_true c2) (by decide) ?_
    refine sd_b_go 1 (pc2 := 19) (lv2 := [(0, .inr (.inr (some (331)))), (1, .inl (p1)), (2, .inl (p2))]) (st2 := [.inl ((-1))]) rfl ?_
    cases h
    exact sd_b_rt rfl rfl rfl
  · rw [if_neg c2] at h
    refine sd_b_zf (c := .eq) rfl (decide_eq_false c2) (by decide) ?_
    refine sd_b_go 4 (pc2 := 12) (lv2 := [(0, .inr (.inr (some (331)))), (1, .inl (p1)), (2, .inl (p2))]) (st2 := [.inr (.inl (1)), .inr (.inl (0)), .inr (.inl (p2))]) rfl ?_
    obtain ⟨r3, e3, h⟩ := sd_bnd h
    refine sd_b_call [.inr (.inl (p2)), .inr (.inl (0)), .inr (.inl (1))] [] rfl rfl sd_i_X10_in rfl rfl (Nat.le_of_ble_eq_true rfl) rfl (m_X10_in (by omega) e3) ?_
    by_cases c4 : r3.1 = 0
    · rw [if_pos c4] at h
      refine sd_b_zf (c := .ne) rfl (decide_eq_false (not_not_intro c4)) (by decide) ?_
      refine sd_b_go 1 (pc2 := 19) (lv2 := [(0, .inr (.inr (some (331)))), (1, .inl (p1)), (2, .inl (p2))]) (st2 := [.inl ((-1))]) rfl ?_
      cases h
      exact sd_b_rt rfl rfl rfl
    · rw [if_neg c4] at h
      refine sd_b_zt (c := .ne) (tgt := 20) rfl (decide_eq_true c4) (by decide) ?_
      refine sd_b_go 1 (pc2 := 21) (lv2 := [(0, .inr (.inr (some (331)))), (1, .inl (p1)), (2, .inl (p2))]) (st2 := [.inr (.inr (some (331)))]) rfl ?_
      refine sd_b_gr (k := 20) sd_o_331 rfl rfl rfl ?_
      refine sd_b_go 3 (pc2 := 27) (lv2 := [(0, .inr (.inr (some (331)))), (1, .inl (p1)), (2, .inl (p2))]) (st2 := [.inl (sd_w (4 + p1)), .inr (.inr (some (341)))]) rfl ?_
      obtain ⟨g5, h⟩ := sd_if h
      refine sd_b_ai (sd_oa sd_o_331 (by decide) (off := 10) (List.mem_of_getElem? (i := 9) rfl)) g5 rfl ?_
      refine sd_b_go 6 (pc2 := 37) (lv2 := [(5, .inl ((-2))), (4, .inl (0)), (3, .inl ((r3.2) 341 (sd_w (4 + p1)).toNat)), (0, .inr (.inr (some (331)))), (1, .inl (p1)), (2, .inl (p2))]) (st2 := [.inr (.inr (some (331)))]) rfl ?_
      obtain ⟨r6, e6, h⟩ := sd_bnd h
      refine sd_b_call [.inr (.inr (some (331)))] [] rfl rfl sd_i_X10_keeps rfl rfl (Nat.le_of_ble_eq_true rfl) (sd_rc_v sd_o_331) (m_X10_keeps (by omega) e6) ?_
      refine sd_b_go 2 (pc2 := 44) (lv2 := [(6, .inl (99)), (5, .inl ((-2))), (4, .inl (0)), (3, .inl ((r3.2) 341 (sd_w (4 + p1)).toNat)), (0, .inr (.inr (some (331)))), (1, .inl (p1)), (2, .inl (p2))]) (st2 := []) rfl ?_
      refine sd_b_wk [(0, .inr (.inr (some (331)))), (1, .inl (p1)), (2, .inl (p2)), (3, .inl ((r3.2) 341 (sd_w (4 + p1)).toNat)), (4, .inl (0)), (5, .inl ((-2))), (6, .inl (99))] (List.forall_mem_cons.mpr ⟨rfl, (List.forall_mem_cons.mpr ⟨rfl, (List.forall_mem_cons.mpr ⟨rfl, (List.forall_mem_cons.mpr ⟨rfl, (List.forall_mem_cons.mpr ⟨rfl, (List.forall_mem_cons.mpr ⟨rfl, (List.forall_mem_cons.mpr ⟨rfl, (fun _ h0 => absurd h0 List.not_mem_nil)⟩)⟩)⟩)⟩)⟩)⟩)⟩) ?_
      exact t_X10_sizes_44 hd (f_X10_sizes_89) (t_X10_sizes_89 hd) 4000 p1 p2 ((r3.2) 341 (sd_w (4 + p1)).toNat) 0 ((-2)) 99 r6.2 _ h
theorem m_X10_sizes {X : Nat → List sd_V → List sd_E → sd_A → Prop} {d : Nat} (hd : 9 ≤ d) {p1 : Int} {p2 : Int} {M : sd_M} {Rr : Int × sd_M} (h : f_X10_sizes p1 p2 M = some Rr) : sd_Cal X d 240 [.inr (.inr (some (331))), .inl (p1), .inl (p2)] (sd_rp M) (some (.inl Rr.1), sd_rp Rr.2, 0, 0) := by
  obtain ⟨d, rfl⟩ : ∃ d2, d = d2 + 1 := ⟨d - 1, by omega⟩
  exact sd_cal_of sd_i_X10_sizes (Nat.le_of_ble_eq_true rfl) (t_X10_sizes (by omega) p1 p2 M Rr h)
-- X10_standing
def sd_q_X10_standing : sd_MI := (yX10_standing, cX10_standing, 5, (some .int), 10, 1, sd_t_X10_standing)
set_option maxRecDepth 4000 in
theorem sd_i_X10_standing : sd_mL[241]? = some sd_q_X10_standing := rfl
def f_X10_standing_61 (k29 : Int → Int → Int → Int → sd_M → Option (Int × sd_M)) (k67 : Int → Int → Int → sd_M → Option (Int × sd_M)) (v1 : Int) (v2 : Int) (v3 : Int) (v4 : Int) (M : sd_M) : Option (Int × sd_M) := k29 v1 v2 v3 (sd_w (v4 + 1)) M
set_option maxRecDepth 4000 in
theorem t_X10_standing_61 {X : Nat → List sd_V → List sd_E → sd_A → Prop} {d : Nat} (hd : 8 ≤ d) (k29 : Int → Int → Int → Int → sd_M → Option (Int × sd_M)) (k67 : Int → Int → Int → sd_M → Option (Int × sd_M)) (hk29 : ∀ (v1 : Int) (v2 : Int) (v3 : Int) (v4 : Int) (M : sd_M) (Rr : Int × sd_M), k29 v1 v2 v3 v4 M = some Rr → sd_B X d sd_q_X10_standing 29 [(0, .inr (.inr (some (331)))), (1, .inl (v1)), (2, .inl (v2)), (3, .inl (v3)), (4, .inl (v4))] [] M (some (.inl Rr.1), sd_rp Rr.2, 0, 0)) (hk67 : ∀ (v1 : Int) (v2 : Int) (v3 : Int) (M : sd_M) (Rr : Int × sd_M), k67 v1 v2 v3 M = some Rr → sd_B X d sd_q_X10_standing 67 [(0, .inr (.inr (some (331)))), (1, .inl (v1)), (2, .inl (v2)), (3, .inl (v3))] [] M (some (.inl Rr.1), sd_rp Rr.2, 0, 0)) (v1 : Int) (v2 : Int) (v3 : Int) (v4 : Int) (M : sd_M) (Rr : Int × sd_M) (h : f_X10_standing_61 k29 k67 v1 v2 v3 v4 M = some Rr) : sd_B X d sd_q_X10_standing 61 [(0, .inr (.inr (some (331)))), (1, .inl (v1)), (2, .inl (v2)), (3, .inl (v3)), (4, .inl (v4))] [] M (some (.inl Rr.1), sd_rp Rr.2, 0, 0) := by
  unfold f_X10_standing_61 at h
  refine sd_b_go 2 (pc2 := 29) (lv2 := [(4, .inl (sd_w (v4 + 1))), (0, .inr (.inr (some (331)))), (1, .inl (v1)), (2, .inl (v2)), (3, .inl (v3))]) (st2 := []) rfl ?_
  refine sd_b_wk [(0, .inr (.inr (some (331)))), (1, .inl (v1)), (2, .inl (v2)), (3, .inl (v3)), (4, .inl (sd_w (v4 + 1)))] (List.forall_mem_cons.mpr ⟨rfl, (List.forall_mem_cons.mpr ⟨rfl, (List.forall_mem_cons.mpr ⟨rfl, (List.forall_mem_cons.mpr ⟨rfl, (List.forall_mem_cons.mpr ⟨rfl, (fun _ h0 => absurd h0 List.not_mem_nil)⟩)⟩)⟩)⟩)⟩) ?_
  exact hk29 v1 v2 v3 (sd_w (v4 + 1)) M _ h
def f_X10_standing_29 (k67 : Int → Int → Int → sd_M → Option (Int × sd_M)) : Nat → Int → Int → Int → Int → sd_M → Option (Int × sd_M)
  | 0, _, _, _, _, _ => none
  | n + 1, v1, v2, v3, v4, M => if 2 ≤ v4 then (k67 v1 v2 v3 M) else (if 0 ≤ (sd_w (13 + v1)) ∧ (sd_w (13 + v1)) < 128 then ((f_X10_areAllSo 0 (sd_s M 341 (sd_w (13 + v1)).toNat v4)).bind fun r3 => if r3.1 = 0 then (f_X10_standing_61 (f_X10_standing_29 k67 n) k67 v1 v2 v3 v4 r3.2) else (f_X10_standing_61 (f_X10_standing_29 k67 n) k67 v1 v2 (sd_or (v3) (sd_shl (1) (v4))) v4 r3.2)) else none)
set_option maxRecDepth 4000 in
theorem t_X10_standing_29 {X : Nat → List sd_V → List sd_E → sd_A → Prop} {d : Nat} (hd : 8 ≤ d) (k67 : Int → Int → Int → sd_M → Option (Int × sd_M)) (hk67 : ∀ (v1 : Int) (v2 : Int) (v3 : Int) (M : sd_M) (Rr : Int × sd_M), k67 v1 v2 v3 M = some Rr → sd_B X d sd_q_X10_standing 67 [(0, .inr (.inr (some (331)))), (1, .inl (v1)), (2, .inl (v2)), (3, .inl (v3))] [] M (some (.inl Rr.1), sd_rp Rr.2, 0, 0)) : ∀ (n : Nat) (v1 : Int) (v2 : Int) (v3 : Int) (v4 : Int) (M : sd_M) (Rr : Int × sd_M), f_X10_standing_29 k67 n v1 v2 v3 v4 M = some Rr → sd_B X d sd_q_X10_standing 29 [(0, .inr (.inr (some (331)))), (1, .inl (v1)), (2, .inl (v2)), (3, .inl (v3)), (4, .inl (v4))] [] M (some (.inl Rr.1), sd_rp Rr.2, 0, 0) := by
  intro n
  induction n with
  | zero => intro v1 v2 v3 v4 M Rr h; cases h
  | succ n ih =>
    intro v1 v2 v3 v4 M Rr h
    rw [f_X10_standing_29] at h
    refine sd_b_go 2 (pc2 := 32) (lv2 := [(0, .inr (.inr (some (331)))), (1, .inl (v1)), (2, .inl (v2)), (3, .inl (v3)), (4, .inl (v4))]) (st2 := [.inl (2), .inl (v4)]) rfl ?_
    by_cases c1 : 2 ≤ v4
    · rw [if_pos c1] at h
      refine sd_b_ct (c := .ge) (tgt := 67) rfl (decide_eq_true c1) (by decide) ?_
      refine sd_b_wk [(0, .inr (.inr (some (331)))), (1, .inl (v1)), (2, .inl (v2)), (3, .inl (v3))] (List.forall_mem_cons.mpr ⟨rfl, (List.forall_mem_cons.mpr ⟨rfl, (List.forall_mem_cons.mpr ⟨rfl, (List.forall_mem_cons.mpr ⟨rfl, (fun _ h0 => absurd h0 List.not_mem_nil)⟩)⟩)⟩)⟩) ?_
      exact hk67 v1 v2 v3 M _ h
    · rw [if_neg c1] at h
      refine sd_b_cf (c := .ge) rfl (decide_eq_false c1) (by decide) ?_
      refine sd_b_go 1 (pc2 := 36) (lv2 := [(0, .inr (.inr (some (331)))), (1, .inl (v1)), (2, .inl (v2)), (3, .inl (v3)), (4, .inl (v4))]) (st2 := [.inr (.inr (some (331)))]) rfl ?_
      refine sd_b_gr (k := 20) sd_o_331 rfl rfl rfl ?_
      refine sd_b_go 4 (pc2 := 45) (lv2 := [(0, .inr (.inr (some (331)))), (1, .inl (v1)), (2, .inl (v2)), (3, .inl (v3)), (4, .inl (v4))]) (st2 := [.inl (v4), .inl (sd_w (13 + v1)), .inr (.inr (some (341)))]) rfl ?_
      obtain ⟨g2, h⟩ := sd_if h
      refine sd_b_si (sd_oa sd_o_331 (by decide) (off := 10) (List.mem_of_getElem? (i := 9) rfl)) g2 rfl ?_
      refine sd_b_go 2 (pc2 := 48) (lv2 := [(0, .inr (.inr (some (331)))), (1, .inl (v1)), (2, .inl (v2)), (3, .inl (v3)), (4, .inl (v4))]) (st2 := [.inl (0), .inr (.inr (some (331)))]) rfl ?_
      obtain ⟨r3, e3, h⟩ := sd_bnd h
      refine sd_b_call [.inr (.inr (some (331))), .inl (0)] [] rfl rfl sd_i_X10_areAllSo rfl rfl (Nat.le_of_ble_eq_true rfl) (sd_rc_v sd_o_331) (m_X10_areAllSo (by omega) e3) ?_
      by_cases c4 : r3.1 = 0
      · rw [if_pos c4] at h
        refine sd_b_zt (c := .eq) (tgt := 61) rfl (decide_eq_true c4) (by decide) ?_
        refine sd_b_wk [(0, .inr (.inr (some (331)))), (1, .inl (v1)), (2, .inl (v2)), (3, .inl (v3)), (4, .inl (v4))] (List.forall_mem_cons.mpr ⟨rfl, (List.forall_mem_cons.mpr ⟨rfl, (List.forall_mem_cons.mpr ⟨rfl, (List.forall_mem_cons.mpr ⟨rfl, (List.forall_mem_cons.mpr ⟨rfl, (fun _ h0 => absurd h0 List.not_mem_nil)⟩)⟩)⟩)⟩)⟩) ?_
        exact t_X10_standing_61 hd (f_X10_standing_29 k67 n) k67 ih hk67 v1 v2 v3 v4 r3.2 _ h
      · rw [if_neg c4] at h
        refine sd_b_zf (c := .eq) rfl (decide_eq_false c4) (by decide) ?_
        refine sd_b_go 6 (pc2 := 61) (lv2 := [(3, .inl (sd_or (v3) (sd_shl (1) (v4)))), (0, .inr (.inr (some (331)))), (1, .inl (v1)), (2, .inl (v2)), (4, .inl (v4))]) (st2 := []) rfl ?_
        refine sd_b_wk [(0, .inr (.inr (some (331)))), (1, .inl (v1)), (2, .inl (v2)), (3, .inl (sd_or (v3) (sd_shl (1) (v4)))), (4, .inl (v4))] (List.forall_mem_cons.mpr ⟨rfl, (List.forall_mem_cons.mpr ⟨rfl, (List.forall_mem_cons.mpr ⟨rfl, (List.forall_mem_cons.mpr ⟨rfl, (List.forall_mem_cons.mpr ⟨rfl, (fun _ h0 => absurd h0 List.not_mem_nil)⟩)⟩)⟩)⟩)⟩) ?_
        exact t_X10_standing_61 hd (f_X10_standing_29 k67 n) k67 ih hk67 v1 v2 (sd_or (v3) (sd_shl (1) (v4))) v4 r3.2 _ h
def f_X10_standing_67 (v1 : Int) (v2 : Int) (v3 : Int) (M : sd_M) : Option (Int × sd_M) := if 0 ≤ (sd_w (13 + v1)) ∧ (sd_w (13 + v1)) < 128 then ((f_X10_laysBack (sd_s M 341 (sd_w (13 + v1)).toNat v2)).bind fun r2 => some (v3, r2.2)) else none
set_option maxRecDepth 4000 in
theorem t_X10_standing_67 {X : Nat → List sd_V → List sd_E → sd_A → Prop} {d : Nat} (hd : 8 ≤ d) (v1 : Int) (v2 : Int) (v3 : Int) (M : sd_M) (Rr : Int × sd_M) (h : f_X10_standing_67 v1 v2 v3 M = some Rr) : sd_B X d sd_q_X10_standing 67 [(0, .inr (.inr (some (331)))), (1, .inl (v1)), (2, .inl (v2)), (3, .inl (v3))] [] M (some (.inl Rr.1), sd_rp Rr.2, 0, 0) := by
  unfold f_X10_standing_67 at h
  refine sd_b_go 1 (pc2 := 68) (lv2 := [(0, .inr (.inr (some (331)))), (1, .inl (v1)), (2, .inl (v2)), (3, .inl (v3))]) (st2 := [.inr (.inr (some (331)))]) rfl ?_
  refine sd_b_gr (k := 20) sd_o_331 rfl rfl rfl ?_
  refine sd_b_go 4 (pc2 := 76) (lv2 := [(0, .inr (.inr (some (331)))), (1, .inl (v1)), (2, .inl (v2)), (3, .inl (v3))]) (st2 := [.inl (v2), .inl (sd_w (13 + v1)), .inr (.inr (some (341)))]) rfl ?_
  obtain ⟨g1, h⟩ := sd_if h
  refine sd_b_si (sd_oa sd_o_331 (by decide) (off := 10) (List.mem_of_getElem? (i := 9) rfl)) g1 rfl ?_
  refine sd_b_go 1 (pc2 := 78) (lv2 := [(0, .inr (.inr (some (331)))), (1, .inl (v1)), (2, .inl (v2)), (3, .inl (v3))]) (st2 := [.inr (.inr (some (331)))]) rfl ?_
  obtain ⟨r2, e2, h⟩ := sd_bnd h
  refine sd_b_call [.inr (.inr (some (331)))] [] rfl rfl sd_i_X10_laysBack rfl rfl (Nat.le_of_ble_eq_true rfl) (sd_rc_v sd_o_331) (m_X10_laysBack (by omega) e2) ?_
  refine sd_b_go 1 (pc2 := 82) (lv2 := [(0, .inr (.inr (some (331)))), (1, .inl (v1)), (2, .inl (v2)), (3, .inl (v3))]) (st2 := [.inl (v3)]) rfl ?_
  cases h
  exact sd_b_rt rfl rfl rfl
def f_X10_standing (p1 : Int) (M : sd_M) : Option (Int × sd_M) := (f_X10_isOffer p1 M).bind fun r1 => if r1.1 = 0 then (some ((-1), r1.2)) else (if 0 ≤ (sd_w (13 + p1)) ∧ (sd_w (13 + p1)) < 128 then ((f_X10_keeps r1.2).bind fun r4 => f_X10_standing_29 (f_X10_standing_67) 4000 p1 ((r1.2) 341 (sd_w (13 + p1)).toNat) 0 0 r4.2) else none)
set_option maxRecDepth 4000 in
theorem t_X10_standing {X : Nat → List sd_V → List sd_E → sd_A → Prop} {d : Nat} (hd : 8 ≤ d) (p1 : Int) (M : sd_M) (Rr : Int × sd_M) (h : f_X10_standing p1 M = some Rr) : sd_B X d sd_q_X10_standing 0 [(0, .inr (.inr (some (331)))), (1, .inl (p1))] [] M (some (.inl Rr.1), sd_rp Rr.2, 0, 0) := by
  unfold f_X10_standing at h
  refine sd_b_go 2 (pc2 := 2) (lv2 := [(0, .inr (.inr (some (331)))), (1, .inl (p1))]) (st2 := [.inl (p1), .inr (.inr (some (331)))]) rfl ?_
  obtain ⟨r1, e1, h⟩ := sd_bnd h
  refine sd_b_call [.inr (.inr (some (331))), .inl (p1)] [] rfl rfl sd_i_X10_isOffer rfl rfl (Nat.le_of_ble_eq_true rfl) (sd_rc_v sd_o_331) (m_X10_isOffer (by omega) e1) ?_
  by_cases c2 : r1.1 = 0
  · rw [if_pos c2] at h
    refine sd_b_zf (c := .ne) rfl (decide_eq_false (not_not_intro c2)) (by decide) ?_
    refine sd_b_go 1 (pc2 := 9) (lv2 := [(0, .inr (.inr (some (331)))), (1, .inl (p1))]) (st2 := [.inl ((-1))]) rfl ?_
    cases h
    exact sd_b_rt rfl rfl rfl
  · rw [if_neg c2] at h
    refine sd_b_zt (c := .ne) (tgt := 10) rfl (decide_eq_true c2) (by decide) ?_
    refine sd_b_go 1 (pc2 := 11) (lv2 := [(0, .inr (.inr (some (331)))), (1, .inl (p1))]) (st2 := [.inr (.inr (some (331)))]) rfl ?_
    refine sd_b_gr (k := 20) sd_o_331 rfl rfl rfl ?_
    refine sd_b_go 3 (pc2 := 18) (lv2 := [(0, .inr (.inr (some (331)))), (1, .inl (p1))]) (st2 := [.inl (sd_w (13 + p1)), .inr (.inr (some (341)))]) rfl ?_
    obtain ⟨g3, h⟩ := sd_if h
    refine sd_b_ai (sd_oa sd_o_331 (by decide) (off := 10) (List.mem_of_getElem? (i := 9) rfl)) g3 rfl ?_
    refine sd_b_go 4 (pc2 := 23) (lv2 := [(3, .inl (0)), (2, .inl ((r1.2) 341 (sd_w (13 + p1)).toNat)), (0, .inr (.inr (some (331)))), (1, .inl (p1))]) (st2 := [.inr (.inr (some (331)))]) rfl ?_
    obtain ⟨r4, e4, h⟩ := sd_bnd h
    refine sd_b_call [.inr (.inr (some (331)))] [] rfl rfl sd_i_X10_keeps rfl rfl (Nat.le_of_ble_eq_true rfl) (sd_rc_v sd_o_331) (m_X10_keeps (by omega) e4) ?_
    refine sd_b_go 2 (pc2 := 29) (lv2 := [(4, .inl (0)), (3, .inl (0)), (2, .inl ((r1.2) 341 (sd_w (13 + p1)).toNat)), (0, .inr (.inr (some (331)))), (1, .inl (p1))]) (st2 := []) rfl ?_
    refine sd_b_wk [(0, .inr (.inr (some (331)))), (1, .inl (p1)), (2, .inl ((r1.2) 341 (sd_w (13 + p1)).toNat)), (3, .inl (0)), (4, .inl (0))] (List.forall_mem_cons.mpr ⟨rfl, (List.forall_mem_cons.mpr ⟨rfl, (List.forall_mem_cons.mpr ⟨rfl, (List.forall_mem_cons.mpr ⟨rfl, (List.forall_mem_cons.mpr ⟨rfl, (fun _ h0 => absurd h0 List.not_mem_nil)⟩)⟩)⟩)⟩)⟩) ?_
    exact t_X10_standing_29 hd (f_X10_standing_67) (t_X10_standing_67 hd) 4000 p1 ((r1.2) 341 (sd_w (13 + p1)).toNat) 0 0 r4.2 _ h
theorem m_X10_standing {X : Nat → List sd_V → List sd_E → sd_A → Prop} {d : Nat} (hd : 9 ≤ d) {p1 : Int} {M : sd_M} {Rr : Int × sd_M} (h : f_X10_standing p1 M = some Rr) : sd_Cal X d 241 [.inr (.inr (some (331))), .inl (p1)] (sd_rp M) (some (.inl Rr.1), sd_rp Rr.2, 0, 0) := by
  obtain ⟨d, rfl⟩ : ∃ d2, d = d2 + 1 := ⟨d - 1, by omega⟩
  exact sd_cal_of sd_i_X10_standing (Nat.le_of_ble_eq_true rfl) (t_X10_standing (by omega) p1 M Rr h)
-- X10_seed
def sd_q_X10_seed : sd_MI := (yX10_seed, cX10_seed, 3, (some .int), 10, 1, sd_t_X10_seed)
set_option maxRecDepth 4000 in
theorem sd_i_X10_seed : sd_mL[242]? = some sd_q_X10_seed := rfl
def f_X10_seed (p1 : Int) (M : sd_M) : Option (Int × sd_M) := if 0 ≤ p1 then (some (M 331 22, sd_s M 331 22 p1)) else (some ((-1), M))
set_option maxRecDepth 4000 in
theorem t_X10_seed {X : Nat → List sd_V → List sd_E → sd_A → Prop} {d : Nat} (hd : 0 ≤ d) (p1 : Int) (M : sd_M) (Rr : Int × sd_M) (h : f_X10_seed p1 M = some Rr) : sd_B X d sd_q_X10_seed 0 [(0, .inr (.inr (some (331)))), (1, .inl (p1))] [] M (some (.inl Rr.1), sd_rp Rr.2, 0, 0) := by
  unfold f_X10_seed at h
  refine sd_b_go 1 (pc2 := 1) (lv2 := [(0, .inr (.inr (some (331)))), (1, .inl (p1))]) (st2 := [.inl (p1)]) rfl ?_
  by_cases c1 : 0 ≤ p1
  · rw [if_pos c1] at h
    refine sd_b_zt (c := .ge) (tgt := 6) rfl (decide_eq_true c1) (by decide) ?_
    refine sd_b_go 1 (pc2 := 7) (lv2 := [(0, .inr (.inr (some (331)))), (1, .inl (p1))]) (st2 := [.inr (.inr (some (331)))]) rfl ?_
    refine sd_b_gi (k := 22) sd_o_331 rfl rfl rfl ?_
    refine sd_b_go 3 (pc2 := 13) (lv2 := [(2, .inl (M 331 22)), (0, .inr (.inr (some (331)))), (1, .inl (p1))]) (st2 := [.inl (p1), .inr (.inr (some (331)))]) rfl ?_
    refine sd_b_pi (k := 22) sd_o_331 rfl rfl rfl rfl rfl ?_
    refine sd_b_go 1 (pc2 := 17) (lv2 := [(2, .inl (M 331 22)), (0, .inr (.inr (some (331)))), (1, .inl (p1))]) (st2 := [.inl (M 331 22)]) rfl ?_
    cases h
    exact sd_b_rt rfl rfl rfl
  · rw [if_neg c1] at h
    refine sd_b_zf (c := .ge) rfl (decide_eq_false c1) (by decide) ?_
    refine sd_b_go 1 (pc2 := 5) (lv2 := [(0, .inr (.inr (some (331)))), (1, .inl (p1))]) (st2 := [.inl ((-1))]) rfl ?_
    cases h
    exact sd_b_rt rfl rfl rfl
theorem m_X10_seed {X : Nat → List sd_V → List sd_E → sd_A → Prop} {d : Nat} (hd : 1 ≤ d) {p1 : Int} {M : sd_M} {Rr : Int × sd_M} (h : f_X10_seed p1 M = some Rr) : sd_Cal X d 242 [.inr (.inr (some (331))), .inl (p1)] (sd_rp M) (some (.inl Rr.1), sd_rp Rr.2, 0, 0) := by
  obtain ⟨d, rfl⟩ : ∃ d2, d = d2 + 1 := ⟨d - 1, by omega⟩
  exact sd_cal_of sd_i_X10_seed (Nat.le_of_ble_eq_true rfl) (t_X10_seed (by omega) p1 M Rr h)
-- X10_draw
def sd_q_X10_draw : sd_MI := (yX10_draw, cX10_draw, 2, (some .int), 10, 1, sd_t_X10_draw)
set_option maxRecDepth 4000 in
theorem sd_i_X10_draw : sd_mL[243]? = some sd_q_X10_draw := rfl
def f_X10_draw (p1 : Int) (M : sd_M) : Option (Int × sd_M) := if p1 ≠ 0 then (some (sd_w (Int.tmod (sd_wl (Int.tdiv (sd_s M 331 38 (Int.tmod (sd_wl ((sd_wl ((M 331 38) * 1103515245)) + 12345)) 2147483648) 331 38) 65536)) p1), sd_s M 331 38 (Int.tmod (sd_wl ((sd_wl ((M 331 38) * 1103515245)) + 12345)) 2147483648))) else none
set_option maxRecDepth 4000 in
theorem t_X10_draw {X : Nat → List sd_V → List sd_E → sd_A → Prop} {d : Nat} (hd : 0 ≤ d) (p1 : Int) (M : sd_M) (Rr : Int × sd_M) (h : f_X10_draw p1 M = some Rr) : sd_B X d sd_q_X10_draw 0 [(0, .inr (.inr (some (331)))), (1, .inl (p1))] [] M (some (.inl Rr.1), sd_rp Rr.2, 0, 0) := by
  unfold f_X10_draw at h
  refine sd_b_go 2 (pc2 := 2) (lv2 := [(0, .inr (.inr (some (331)))), (1, .inl (p1))]) (st2 := [.inr (.inr (some (331))), .inr (.inr (some (331)))]) rfl ?_
  refine sd_b_gl (k := 38) sd_o_331 rfl rfl rfl ?_
  refine sd_b_go 5 (pc2 := 16) (lv2 := [(0, .inr (.inr (some (331)))), (1, .inl (p1))]) (st2 := [.inr (.inl (2147483648)), .inr (.inl (sd_wl ((sd_wl ((M 331 38) * 1103515245)) + 12345))), .inr (.inr (some (331)))]) rfl ?_
  refine sd_b_lmz (by decide) rfl ?_
  refine sd_b_pl (k := 38) sd_o_331 rfl rfl rfl rfl rfl ?_
  refine sd_b_go 1 (pc2 := 21) (lv2 := [(0, .inr (.inr (some (331)))), (1, .inl (p1))]) (st2 := [.inr (.inr (some (331)))]) rfl ?_
  refine sd_b_gl (k := 38) sd_o_331 rfl rfl rfl ?_
  refine sd_b_go 1 (pc2 := 27) (lv2 := [(0, .inr (.inr (some (331)))), (1, .inl (p1))]) (st2 := [.inr (.inl (65536)), .inr (.inl (sd_s M 331 38 (Int.tmod (sd_wl ((sd_wl ((M 331 38) * 1103515245)) + 12345)) 2147483648) 331 38))]) rfl ?_
  refine sd_b_ldz (by decide) rfl ?_
  refine sd_b_go 2 (pc2 := 30) (lv2 := [(0, .inr (.inr (some (331)))), (1, .inl (p1))]) (st2 := [.inr (.inl (p1)), .inr (.inl (sd_wl (Int.tdiv (sd_s M 331 38 (Int.tmod (sd_wl ((sd_wl ((M 331 38) * 1103515245)) + 12345)) 2147483648) 331 38) 65536)))]) rfl ?_
  obtain ⟨g1, h⟩ := sd_if h
  refine sd_b_lmz g1 rfl ?_
  refine sd_b_go 1 (pc2 := 32) (lv2 := [(0, .inr (.inr (some (331)))), (1, .inl (p1))]) (st2 := [.inl (sd_w (Int.tmod (sd_wl (Int.tdiv (sd_s M 331 38 (Int.tmod (sd_wl ((sd_wl ((M 331 38) * 1103515245)) + 12345)) 2147483648) 331 38) 65536)) p1))]) rfl ?_
  cases h
  exact sd_b_rt rfl rfl rfl
theorem m_X10_draw {X : Nat → List sd_V → List sd_E → sd_A → Prop} {d : Nat} (hd : 1 ≤ d) {p1 : Int} {M : sd_M} {Rr : Int × sd_M} (h : f_X10_draw p1 M = some Rr) : sd_Cal X d 243 [.inr (.inr (some (331))), .inl (p1)] (sd_rp M) (some (.inl Rr.1), sd_rp Rr.2, 0, 0) := by
  obtain ⟨d, rfl⟩ : ∃ d2, d = d2 + 1 := ⟨d - 1, by omega⟩
  exact sd_cal_of sd_i_X10_draw (Nat.le_of_ble_eq_true rfl) (t_X10_draw (by omega) p1 M Rr h)
-- X10_changesOne
def sd_q_X10_changesOne : sd_MI := (yX10_changesOne, cX10_changesOne, 2, none, 10, 0, sd_t_X10_changesOne)
set_option maxRecDepth 4000 in
theorem sd_i_X10_changesOne : sd_mL[244]? = some sd_q_X10_changesOne := rfl
def f_X10_changesOne (M : sd_M) : Option (Int × sd_M) := (f_X10_draw (M 341 2) M).bind fun r1 => (f_X10_isLine r1.1 r1.2).bind fun r2 => if r2.1 = 0 then (some (0, r2.2)) else ((f_X10_cancels r1.1 r2.2).bind fun r4 => some (0, r4.2))
set_option maxRecDepth 4000 in
theorem t_X10_changesOne {X : Nat → List sd_V → List sd_E → sd_A → Prop} {d : Nat} (hd : 7 ≤ d) (M : sd_M) (Rr : Int × sd_M) (h : f_X10_changesOne M = some Rr) : sd_B X d sd_q_X10_changesOne 0 [(0, .inr (.inr (some (331))))] [] M (none, sd_rp Rr.2, 0, 0) := by
  unfold f_X10_changesOne at h
  refine sd_b_go 2 (pc2 := 2) (lv2 := [(0, .inr (.inr (some (331))))]) (st2 := [.inr (.inr (some (331))), .inr (.inr (some (331)))]) rfl ?_
  refine sd_b_gr (k := 20) sd_o_331 rfl rfl rfl ?_
  refine sd_b_go 1 (pc2 := 6) (lv2 := [(0, .inr (.inr (some (331))))]) (st2 := [.inl (2), .inr (.inr (some (341))), .inr (.inr (some (331)))]) rfl ?_
  refine sd_b_ai (i := 2) (sd_oa sd_o_331 (by decide) (off := 10) (List.mem_of_getElem? (i := 9) rfl)) (by decide) rfl ?_
  obtain ⟨r1, e1, h⟩ := sd_bnd h
  refine sd_b_call [.inr (.inr (some (331))), .inl (M 341 2)] [] rfl rfl sd_i_X10_draw rfl rfl (Nat.le_of_ble_eq_true rfl) (sd_rc_v sd_o_331) (m_X10_draw (by omega) e1) ?_
  refine sd_b_go 3 (pc2 := 13) (lv2 := [(1, .inl (r1.1)), (0, .inr (.inr (some (331))))]) (st2 := [.inl (r1.1), .inr (.inr (some (331)))]) rfl ?_
  obtain ⟨r2, e2, h⟩ := sd_bnd h
  refine sd_b_call [.inr (.inr (some (331))), .inl (r1.1)] [] rfl rfl sd_i_X10_isLine rfl rfl (Nat.le_of_ble_eq_true rfl) (sd_rc_v sd_o_331) (m_X10_isLine (by omega) e2) ?_
  by_cases c3 : r2.1 = 0
  · rw [if_pos c3] at h
    refine sd_b_zt (c := .eq) (tgt := 25) rfl (decide_eq_true c3) (by decide) ?_
    cases h
    exact sd_b_rt rfl rfl rfl
  · rw [if_neg c3] at h
    refine sd_b_zf (c := .eq) rfl (decide_eq_false c3) (by decide) ?_
    refine sd_b_go 2 (pc2 := 21) (lv2 := [(1, .inl (r1.1)), (0, .inr (.inr (some (331))))]) (st2 := [.inl (r1.1), .inr (.inr (some (331)))]) rfl ?_
    obtain ⟨r4, e4, h⟩ := sd_bnd h
    refine sd_b_call [.inr (.inr (some (331))), .inl (r1.1)] [] rfl rfl sd_i_X10_cancels rfl rfl (Nat.le_of_ble_eq_true rfl) (sd_rc_v sd_o_331) (m_X10_cancels (by omega) e4) ?_
    refine sd_b_go 1 (pc2 := 25) (lv2 := [(1, .inl (r1.1)), (0, .inr (.inr (some (331))))]) (st2 := []) rfl ?_
    cases h
    exact sd_b_rt rfl rfl rfl
theorem m_X10_changesOne {X : Nat → List sd_V → List sd_E → sd_A → Prop} {d : Nat} (hd : 8 ≤ d) {M : sd_M} {Rr : Int × sd_M} (h : f_X10_changesOne M = some Rr) : sd_Cal X d 244 [.inr (.inr (some (331)))] (sd_rp M) (none, sd_rp Rr.2, 0, 0) := by
  obtain ⟨d, rfl⟩ : ∃ d2, d = d2 + 1 := ⟨d - 1, by omega⟩
  exact sd_cal_of sd_i_X10_changesOne (Nat.le_of_ble_eq_true rfl) (t_X10_changesOne (by omega) M Rr h)
