-- X10_seasons
def sd_q_X10_seasons : sd_MI := (yX10_seasons, cX10_seasons, 9, (some .int), 10, 4, sd_t_X10_seasons)
set_option maxRecDepth 4000 in
theorem sd_i_X10_seasons : sd_mL[245]? = some sd_q_X10_seasons := rfl
def f_X10_seasons_116 (k87 : Int → Int → Int → Int → Int → Int → Int → Int → sd_M → Option (Int × sd_M)) (k127 : Int → Int → Int → Int → Int → Int → Int → sd_M → Option (Int × sd_M)) (v1 : Int) (v2 : Int) (v3 : Int) (v4 : Int) (v5 : Int) (v6 : Int) (v7 : Int) (v8 : Int) (M : sd_M) : Option (Int × sd_M) := (f_X10_passes M).bind fun r1 => k87 v1 v2 v3 v4 v5 v6 v7 (sd_w (v8 + 1)) r1.2
set_option maxRecDepth 4000 in
theorem t_X10_seasons_116 {X : Nat → List sd_V → List sd_E → sd_A → Prop} {d : Nat} (hd : 8 ≤ d) (k87 : Int → Int → Int → Int → Int → Int → Int → Int → sd_M → Option (Int × sd_M)) (k127 : Int → Int → Int → Int → Int → Int → Int → sd_M → Option (Int × sd_M)) (hk87 : ∀ (v1 : Int) (v2 : Int) (v3 : Int) (v4 : Int) (v5 : Int) (v6 : Int) (v7 : Int) (v8 : Int) (M : sd_M) (Rr : Int × sd_M), k87 v1 v2 v3 v4 v5 v6 v7 v8 M = some Rr → sd_B X d sd_q_X10_seasons 87 [(0, .inr (.inr (some (331)))), (1, .inl (v1)), (2, .inl (v2)), (3, .inl (v3)), (4, .inl (v4)), (5, .inl (v5)), (6, .inl (v6)), (7, .inl (v7)), (8, .inl (v8))] [] M (some (.inl Rr.1), sd_rp Rr.2, 0, 0)) (hk127 : ∀ (v1 : Int) (v2 : Int) (v3 : Int) (v4 : Int) (v5 : Int) (v6 : Int) (v7 : Int) (M : sd_M) (Rr : Int × sd_M), k127 v1 v2 v3 v4 v5 v6 v7 M = some Rr → sd_B X d sd_q_X10_seasons 127 [(0, .inr (.inr (some (331)))), (1, .inl (v1)), (2, .inl (v2)), (3, .inl (v3)), (4, .inl (v4)), (5, .inl (v5)), (6, .inl (v6)), (7, .inl (v7))] [] M (some (.inl Rr.1), sd_rp Rr.2, 0, 0)) (v1 : Int) (v2 : Int) (v3 : Int) (v4 : Int) (v5 : Int) (v6 : Int) (v7 : Int) (v8 : Int) (M : sd_M) (Rr : Int × sd_M) (h : f_X10_seasons_116 k87 k127 v1 v2 v3 v4 v5 v6 v7 v8 M = some Rr) : sd_B X d sd_q_X10_seasons 116 [(0, .inr (.inr (some (331)))), (1, .inl (v1)), (2, .inl (v2)), (3, .inl (v3)), (4, .inl (v4)), (5, .inl (v5)), (6, .inl (v6)), (7, .inl (v7)), (8, .inl (v8))] [] M (some (.inl Rr.1), sd_rp Rr.2, 0, 0) := by
  unfold f_X10_seasons_116 at h
  refine sd_b_go 1 (pc2 := 117) (lv2 := [(0, .inr (.inr (some (331)))), (1, .inl (v1)), (2, .inl (v2)), (3, .inl (v3)), (4, .inl (v4)), (5, .inl (v5)), (6, .inl (v6)), (7, .inl (v7)), (8, .inl (v8))]) (st2 := [.inr (.inr (some (331)))]) rfl ?_
  obtain ⟨r1, e1, h⟩ := sd_bnd h
  refine sd_b_call [.inr (.inr (some (331)))] [] rfl rfl sd_i_X10_passes rfl rfl (Nat.le_of_ble_eq_true rfl) (sd_rc_v sd_o_331) (m_X10_passes (by omega) e1) ?_
  refine sd_b_go 3 (pc2 := 87) (lv2 := [(8, .inl (sd_w (v8 + 1))), (0, .inr (.inr (some (331)))), (1, .inl (v1)), (2, .inl (v2)), (3, .inl (v3)), (4, .inl (v4)), (5, .inl (v5)), (6, .inl (v6)), (7, .inl (v7))]) (st2 := []) rfl ?_
  refine sd_b_wk [(0, .inr (.inr (some (331)))), (1, .inl (v1)), (2, .inl (v2)), (3, .inl (v3)), (4, .inl (v4)), (5, .inl (v5)), (6, .inl (v6)), (7, .inl (v7)), (8, .inl (sd_w (v8 + 1)))] (List.forall_mem_cons.mpr ⟨rfl, (List.forall_mem_cons.mpr ⟨rfl, (List.forall_mem_cons.mpr ⟨rfl, (List.forall_mem_cons.mpr ⟨rfl, (List.forall_mem_cons.mpr ⟨rfl, (List.forall_mem_cons.mpr ⟨rfl, (List.forall_mem_cons.mpr ⟨rfl, (List.forall_mem_cons.mpr ⟨rfl, (List.forall_mem_cons.mpr ⟨rfl, (fun _ h0 => absurd h0 List.not_mem_nil)⟩)⟩)⟩)⟩)⟩)⟩)⟩)⟩)⟩) ?_
  exact hk87 v1 v2 v3 v4 v5 v6 v7 (sd_w (v8 + 1)) r1.2 _ h
def f_X10_seasons_87 (k127 : Int → Int → Int → Int → Int → Int → Int → sd_M → Option (Int × sd_M)) : Nat → Int → Int → Int → Int → Int → Int → Int → Int → sd_M → Option (Int × sd_M)
  | 0, _, _, _, _, _, _, _, _, _ => none
  | n + 1, v1, v2, v3, v4, v5, v6, v7, v8, M => if v2 ≤ v8 then (k127 v1 v2 v3 v4 v5 v6 v7 M) else ((f_X10_draw 100 M).bind fun r2 => if v3 ≤ r2.1 then (f_X10_seasons_116 (f_X10_seasons_87 k127 n) k127 v1 v2 v3 v4 v5 v6 v7 v8 r2.2) else (if (r2.2 341 2) ≤ 0 then (f_X10_seasons_116 (f_X10_seasons_87 k127 n) k127 v1 v2 v3 v4 v5 v6 v7 v8 r2.2) else ((f_X10_changesOne r2.2).bind fun r5 => f_X10_seasons_116 (f_X10_seasons_87 k127 n) k127 v1 v2 v3 v4 v5 v6 v7 v8 r5.2)))
set_option maxRecDepth 4000 in
theorem t_X10_seasons_87 {X : Nat → List sd_V → List sd_E → sd_A → Prop} {d : Nat} (hd : 8 ≤ d) (k127 : Int → Int → Int → Int → Int → Int → Int → sd_M → Option (Int × sd_M)) (hk127 : ∀ (v1 : Int) (v2 : Int) (v3 : Int) (v4 : Int) (v5 : Int) (v6 : Int) (v7 : Int) (M : sd_M) (Rr : Int × sd_M), k127 v1 v2 v3 v4 v5 v6 v7 M = some Rr → sd_B X d sd_q_X10_seasons 127 [(0, .inr (.inr (some (331)))), (1, .inl (v1)), (2, .inl (v2)), (3, .inl (v3)), (4, .inl (v4)), (5, .inl (v5)), (6, .inl (v6)), (7, .inl (v7))] [] M (some (.inl Rr.1), sd_rp Rr.2, 0, 0)) : ∀ (n : Nat) (v1 : Int) (v2 : Int) (v3 : Int) (v4 : Int) (v5 : Int) (v6 : Int) (v7 : Int) (v8 : Int) (M : sd_M) (Rr : Int × sd_M), f_X10_seasons_87 k127 n v1 v2 v3 v4 v5 v6 v7 v8 M = some Rr → sd_B X d sd_q_X10_seasons 87 [(0, .inr (.inr (some (331)))), (1, .inl (v1)), (2, .inl (v2)), (3, .inl (v3)), (4, .inl (v4)), (5, .inl (v5)), (6, .inl (v6)), (7, .inl (v7)), (8, .inl (v8))] [] M (some (.inl Rr.1), sd_rp Rr.2, 0, 0) := by
  intro n
  induction n with
  | zero => intro v1 v2 v3 v4 v5 v6 v7 v8 M Rr h; cases h
  | succ n ih =>
    intro v1 v2 v3 v4 v5 v6 v7 v8 M Rr h
    rw [f_X10_seasons_87] at h
    refine sd_b_go 2 (pc2 := 90) (lv2 := [(0, .inr (.inr (some (331)))), (1, .inl (v1)), (2, .inl (v2)), (3, .inl (v3)), (4, .inl (v4)), (5, .inl (v5)), (6, .inl (v6)), (7, .inl (v7)), (8, .inl (v8))]) (st2 := [.inl (v2), .inl (v8)]) rfl ?_
    by_cases c1 : v2 ≤ v8
    · rw [if_pos c1] at h
      refine sd_b_ct (c := .ge) (tgt := 127) rfl (decide_eq_true c1) (by decide) ?_
      refine sd_b_wk [(0, .inr (.inr (some (331)))), (1, .inl (v1)), (2, .inl (v2)), (3, .inl (v3)), (4, .inl (v4)), (5, .inl (v5)), (6, .inl (v6)), (7, .inl (v7))] (List.forall_mem_cons.mpr ⟨rfl, (List.forall_mem_cons.mpr ⟨rfl, (List.forall_mem_cons.mpr ⟨rfl, (List.forall_mem_cons.mpr ⟨rfl, (List.forall_mem_cons.mpr ⟨rfl, (List.forall_mem_cons.mpr ⟨rfl, (List.forall_mem_cons.mpr ⟨rfl, (List.forall_mem_cons.mpr ⟨rfl, (fun _ h0 => absurd h0 List.not_mem_nil)⟩)⟩)⟩)⟩)⟩)⟩)⟩)⟩) ?_
      exact hk127 v1 v2 v3 v4 v5 v6 v7 M _ h
    · rw [if_neg c1] at h
      refine sd_b_cf (c := .ge) rfl (decide_eq_false c1) (by decide) ?_
      refine sd_b_go 2 (pc2 := 96) (lv2 := [(0, .inr (.inr (some (331)))), (1, .inl (v1)), (2, .inl (v2)), (3, .inl (v3)), (4, .inl (v4)), (5, .inl (v5)), (6, .inl (v6)), (7, .inl (v7)), (8, .inl (v8))]) (st2 := [.inl (100), .inr (.inr (some (331)))]) rfl ?_
      obtain ⟨r2, e2, h⟩ := sd_bnd h
      refine sd_b_call [.inr (.inr (some (331))), .inl (100)] [] rfl rfl sd_i_X10_draw rfl rfl (Nat.le_of_ble_eq_true rfl) (sd_rc_v sd_o_331) (m_X10_draw (by omega) e2) ?_
      refine sd_b_go 1 (pc2 := 100) (lv2 := [(0, .inr (.inr (some (331)))), (1, .inl (v1)), (2, .inl (v2)), (3, .inl (v3)), (4, .inl (v4)), (5, .inl (v5)), (6, .inl (v6)), (7, .inl (v7)), (8, .inl (v8))]) (st2 := [.inl (v3), .inl (r2.1)]) rfl ?_
      by_cases c3 : v3 ≤ r2.1
      · rw [if_pos c3] at h
        refine sd_b_ct (c := .ge) (tgt := 116) rfl (decide_eq_true c3) (by decide) ?_
        refine sd_b_wk [(0, .inr (.inr (some (331)))), (1, .inl (v1)), (2, .inl (v2)), (3, .inl (v3)), (4, .inl (v4)), (5, .inl (v5)), (6, .inl (v6)), (7, .inl (v7)), (8, .inl (v8))] (List.forall_mem_cons.mpr ⟨rfl, (List.forall_mem_cons.mpr ⟨rfl, (List.forall_mem_cons.mpr ⟨rfl, (List.forall_mem_cons.mpr ⟨rfl, (List.forall_mem_cons.mpr ⟨rfl, (List.forall_mem_cons.mpr ⟨rfl, (List.forall_mem_cons.mpr ⟨rfl, (List.forall_mem_cons.mpr ⟨rfl, (List.forall_mem_cons.mpr ⟨rfl, (fun _ h0 => absurd h0 List.not_mem_nil)⟩)⟩)⟩)⟩)⟩)⟩)⟩)⟩)⟩) ?_
        exact t_X10_seasons_116 hd (f_X10_seasons_87 k127 n) k127 ih hk127 v1 v2 v3 v4 v5 v6 v7 v8 r2.2 _ h
      · rw [if_neg c3] at h
        refine sd_b_cf (c := .ge) rfl (decide_eq_false c3) (by decide) ?_
        refine sd_b_go 1 (pc2 := 104) (lv2 := [(0, .inr (.inr (some (331)))), (1, .inl (v1)), (2, .inl (v2)), (3, .inl (v3)), (4, .inl (v4)), (5, .inl (v5)), (6, .inl (v6)), (7, .inl (v7)), (8, .inl (v8))]) (st2 := [.inr (.inr (some (331)))]) rfl ?_
        refine sd_b_gr (k := 20) sd_o_331 rfl rfl rfl ?_
        refine sd_b_go 1 (pc2 := 108) (lv2 := [(0, .inr (.inr (some (331)))), (1, .inl (v1)), (2, .inl (v2)), (3, .inl (v3)), (4, .inl (v4)), (5, .inl (v5)), (6, .inl (v6)), (7, .inl (v7)), (8, .inl (v8))]) (st2 := [.inl (2), .inr (.inr (some (341)))]) rfl ?_
        refine sd_b_ai (i := 2) (sd_oa sd_o_331 (by decide) (off := 10) (List.mem_of_getElem? (i := 9) rfl)) (by decide) rfl ?_
        by_cases c4 : (r2.2 341 2) ≤ 0
        · rw [if_pos c4] at h
          refine sd_b_zt (c := .le) (tgt := 116) rfl (decide_eq_true c4) (by decide) ?_
          refine sd_b_wk [(0, .inr (.inr (some (331)))), (1, .inl (v1)), (2, .inl (v2)), (3, .inl (v3)), (4, .inl (v4)), (5, .inl (v5)), (6, .inl (v6)), (7, .inl (v7)), (8, .inl (v8))] (List.forall_mem_cons.mpr ⟨rfl, (List.forall_mem_cons.mpr ⟨rfl, (List.forall_mem_cons.mpr ⟨rfl, (List.forall_mem_cons.mpr ⟨rfl, (List.forall_mem_cons.mpr ⟨rfl, (List.forall_mem_cons.mpr ⟨rfl, (List.forall_mem_cons.mpr ⟨rfl, (List.forall_mem_cons.mpr ⟨rfl, (List.forall_mem_cons.mpr ⟨rfl, (fun _ h0 => absurd h0 List.not_mem_nil)⟩)⟩)⟩)⟩)⟩)⟩)⟩)⟩)⟩) ?_
          exact t_X10_seasons_116 hd (f_X10_seasons_87 k127 n) k127 ih hk127 v1 v2 v3 v4 v5 v6 v7 v8 r2.2 _ h
        · rw [if_neg c4] at h
          refine sd_b_zf (c := .le) rfl (decide_eq_false c4) (by decide) ?_
          refine sd_b_go 1 (pc2 := 113) (lv2 := [(0, .inr (.inr (some (331)))), (1, .inl (v1)), (2, .inl (v2)), (3, .inl (v3)), (4, .inl (v4)), (5, .inl (v5)), (6, .inl (v6)), (7, .inl (v7)), (8, .inl (v8))]) (st2 := [.inr (.inr (some (331)))]) rfl ?_
          obtain ⟨r5, e5, h⟩ := sd_bnd h
          refine sd_b_call [.inr (.inr (some (331)))] [] rfl rfl sd_i_X10_changesOne rfl rfl (Nat.le_of_ble_eq_true rfl) (sd_rc_v sd_o_331) (m_X10_changesOne (by omega) e5) ?_
          refine sd_b_wk [(0, .inr (.inr (some (331)))), (1, .inl (v1)), (2, .inl (v2)), (3, .inl (v3)), (4, .inl (v4)), (5, .inl (v5)), (6, .inl (v6)), (7, .inl (v7)), (8, .inl (v8))] (List.forall_mem_cons.mpr ⟨rfl, (List.forall_mem_cons.mpr ⟨rfl, (List.forall_mem_cons.mpr ⟨rfl, (List.forall_mem_cons.mpr ⟨rfl, (List.forall_mem_cons.mpr ⟨rfl, (List.forall_mem_cons.mpr ⟨rfl, (List.forall_mem_cons.mpr ⟨rfl, (List.forall_mem_cons.mpr ⟨rfl, (List.forall_mem_cons.mpr ⟨rfl, (fun _ h0 => absurd h0 List.not_mem_nil)⟩)⟩)⟩)⟩)⟩)⟩)⟩)⟩)⟩) ?_
          exact t_X10_seasons_116 hd (f_X10_seasons_87 k127 n) k127 ih hk127 v1 v2 v3 v4 v5 v6 v7 v8 r5.2 _ h
def f_X10_seasons_127 (k78 : Int → Int → Int → Int → Int → Int → Int → sd_M → Option (Int × sd_M)) (k158 : Int → Int → Int → sd_M → Option (Int × sd_M)) (v1 : Int) (v2 : Int) (v3 : Int) (v4 : Int) (v5 : Int) (v6 : Int) (v7 : Int) (M : sd_M) : Option (Int × sd_M) := (f_X10_shortNow M).bind fun r1 => (f_X10_laysBack r1.2).bind fun r2 => k78 v1 v2 v3 v4 (sd_w (v5 + r1.1)) (sd_w (v6 + (r1.2 341 60))) (sd_w (v7 + 1)) r2.2
set_option maxRecDepth 4000 in
theorem t_X10_seasons_127 {X : Nat → List sd_V → List sd_E → sd_A → Prop} {d : Nat} (hd : 8 ≤ d) (k78 : Int → Int → Int → Int → Int → Int → Int → sd_M → Option (Int × sd_M)) (k158 : Int → Int → Int → sd_M → Option (Int × sd_M)) (hk78 : ∀ (v1 : Int) (v2 : Int) (v3 : Int) (v4 : Int) (v5 : Int) (v6 : Int) (v7 : Int) (M : sd_M) (Rr : Int × sd_M), k78 v1 v2 v3 v4 v5 v6 v7 M = some Rr → sd_B X d sd_q_X10_seasons 78 [(0, .inr (.inr (some (331)))), (1, .inl (v1)), (2, .inl (v2)), (3, .inl (v3)), (4, .inl (v4)), (5, .inl (v5)), (6, .inl (v6)), (7, .inl (v7))] [] M (some (.inl Rr.1), sd_rp Rr.2, 0, 0)) (hk158 : ∀ (v4 : Int) (v5 : Int) (v6 : Int) (M : sd_M) (Rr : Int × sd_M), k158 v4 v5 v6 M = some Rr → sd_B X d sd_q_X10_seasons 158 [(4, .inl (v4)), (5, .inl (v5)), (6, .inl (v6))] [] M (some (.inl Rr.1), sd_rp Rr.2, 0, 0)) (v1 : Int) (v2 : Int) (v3 : Int) (v4 : Int) (v5 : Int) (v6 : Int) (v7 : Int) (M : sd_M) (Rr : Int × sd_M) (h : f_X10_seasons_127 k78 k158 v1 v2 v3 v4 v5 v6 v7 M = some Rr) : sd_B X d sd_q_X10_seasons 127 [(0, .inr (.inr (some (331)))), (1, .inl (v1)), (2, .inl (v2)), (3, .inl (v3)), (4, .inl (v4)), (5, .inl (v5)), (6, .inl (v6)), (7, .inl (v7))] [] M (some (.inl Rr.1), sd_rp Rr.2, 0, 0) := by
  unfold f_X10_seasons_127 at h
  refine sd_b_go 2 (pc2 := 130) (lv2 := [(0, .inr (.inr (some (331)))), (1, .inl (v1)), (2, .inl (v2)), (3, .inl (v3)), (4, .inl (v4)), (5, .inl (v5)), (6, .inl (v6)), (7, .inl (v7))]) (st2 := [.inr (.inr (some (331))), .inl (v5)]) rfl ?_
  obtain ⟨r1, e1, h⟩ := sd_bnd h
  refine sd_b_call [.inr (.inr (some (331)))] [.inl (v5)] rfl rfl sd_i_X10_shortNow rfl rfl (Nat.le_of_ble_eq_true rfl) (sd_rc_v sd_o_331) (m_X10_shortNow (by omega) e1) ?_
  refine sd_b_go 4 (pc2 := 139) (lv2 := [(5, .inl (sd_w (v5 + r1.1))), (0, .inr (.inr (some (331)))), (1, .inl (v1)), (2, .inl (v2)), (3, .inl (v3)), (4, .inl (v4)), (6, .inl (v6)), (7, .inl (v7))]) (st2 := [.inr (.inr (some (331))), .inl (v6)]) rfl ?_
  refine sd_b_gr (k := 20) sd_o_331 rfl rfl rfl ?_
  refine sd_b_go 1 (pc2 := 144) (lv2 := [(5, .inl (sd_w (v5 + r1.1))), (0, .inr (.inr (some (331)))), (1, .inl (v1)), (2, .inl (v2)), (3, .inl (v3)), (4, .inl (v4)), (6, .inl (v6)), (7, .inl (v7))]) (st2 := [.inl (60), .inr (.inr (some (341))), .inl (v6)]) rfl ?_
  refine sd_b_ai (i := 60) (sd_oa sd_o_331 (by decide) (off := 10) (List.mem_of_getElem? (i := 9) rfl)) (by decide) rfl ?_
  refine sd_b_go 3 (pc2 := 149) (lv2 := [(6, .inl (sd_w (v6 + (r1.2 341 60)))), (5, .inl (sd_w (v5 + r1.1))), (0, .inr (.inr (some (331)))), (1, .inl (v1)), (2, .inl (v2)), (3, .inl (v3)), (4, .inl (v4)), (7, .inl (v7))]) (st2 := [.inr (.inr (some (331)))]) rfl ?_
  obtain ⟨r2, e2, h⟩ := sd_bnd h
  refine sd_b_call [.inr (.inr (some (331)))] [] rfl rfl sd_i_X10_laysBack rfl rfl (Nat.le_of_ble_eq_true rfl) (sd_rc_v sd_o_331) (m_X10_laysBack (by omega) e2) ?_
  refine sd_b_go 2 (pc2 := 78) (lv2 := [(7, .inl (sd_w (v7 + 1))), (6, .inl (sd_w (v6 + (r1.2 341 60)))), (5, .inl (sd_w (v5 + r1.1))), (0, .inr (.inr (some (331)))), (1, .inl (v1)), (2, .inl (v2)), (3, .inl (v3)), (4, .inl (v4))]) (st2 := []) rfl ?_
  refine sd_b_wk [(0, .inr (.inr (some (331)))), (1, .inl (v1)), (2, .inl (v2)), (3, .inl (v3)), (4, .inl (v4)), (5, .inl (sd_w (v5 + r1.1))), (6, .inl (sd_w (v6 + (r1.2 341 60)))), (7, .inl (sd_w (v7 + 1)))] (List.forall_mem_cons.mpr ⟨rfl, (List.forall_mem_cons.mpr ⟨rfl, (List.forall_mem_cons.mpr ⟨rfl, (List.forall_mem_cons.mpr ⟨rfl, (List.forall_mem_cons.mpr ⟨rfl, (List.forall_mem_cons.mpr ⟨rfl, (List.forall_mem_cons.mpr ⟨rfl, (List.forall_mem_cons.mpr ⟨rfl, (fun _ h0 => absurd h0 List.not_mem_nil)⟩)⟩)⟩)⟩)⟩)⟩)⟩)⟩) ?_
  exact hk78 v1 v2 v3 v4 (sd_w (v5 + r1.1)) (sd_w (v6 + (r1.2 341 60))) (sd_w (v7 + 1)) r2.2 _ h
def f_X10_seasons_78 (k158 : Int → Int → Int → sd_M → Option (Int × sd_M)) : Nat → Int → Int → Int → Int → Int → Int → Int → sd_M → Option (Int × sd_M)
  | 0, _, _, _, _, _, _, _, _ => none
  | n + 1, v1, v2, v3, v4, v5, v6, v7, M => if v1 ≤ v7 then (k158 v4 v5 v6 M) else (f_X10_seasons_87 (f_X10_seasons_127 (f_X10_seasons_78 k158 n) k158) 4000 v1 v2 v3 v4 v5 v6 v7 0 M)
set_option maxRecDepth 4000 in
theorem t_X10_seasons_78 {X : Nat → List sd_V → List sd_E → sd_A → Prop} {d : Nat} (hd : 8 ≤ d) (k158 : Int → Int → Int → sd_M → Option (Int × sd_M)) (hk158 : ∀ (v4 : Int) (v5 : Int) (v6 : Int) (M : sd_M) (Rr : Int × sd_M), k158 v4 v5 v6 M = some Rr → sd_B X d sd_q_X10_seasons 158 [(4, .inl (v4)), (5, .inl (v5)), (6, .inl (v6))] [] M (some (.inl Rr.1), sd_rp Rr.2, 0, 0)) : ∀ (n : Nat) (v1 : Int) (v2 : Int) (v3 : Int) (v4 : Int) (v5 : Int) (v6 : Int) (v7 : Int) (M : sd_M) (Rr : Int × sd_M), f_X10_seasons_78 k158 n v1 v2 v3 v4 v5 v6 v7 M = some Rr → sd_B X d sd_q_X10_seasons 78 [(0, .inr (.inr (some (331)))), (1, .inl (v1)), (2, .inl (v2)), (3, .inl (v3)), (4, .inl (v4)), (5, .inl (v5)), (6, .inl (v6)), (7, .inl (v7))] [] M (some (.inl Rr.1), sd_rp Rr.2, 0, 0) := by
  intro n
  induction n with
  | zero => intro v1 v2 v3 v4 v5 v6 v7 M Rr h; cases h
  | succ n ih =>
    intro v1 v2 v3 v4 v5 v6 v7 M Rr h
    rw [f_X10_seasons_78] at h
    refine sd_b_go 2 (pc2 := 81) (lv2 := [(0, .inr (.inr (some (331)))), (1, .inl (v1)), (2, .inl (v2)), (3, .inl (v3)), (4, .inl (v4)), (5, .inl (v5)), (6, .inl (v6)), (7, .inl (v7))]) (st2 := [.inl (v1), .inl (v7)]) rfl ?_
    by_cases c1 : v1 ≤ v7
    · rw [if_pos c1] at h
      refine sd_b_ct (c := .ge) (tgt := 158) rfl (decide_eq_true c1) (by decide) ?_
      refine sd_b_wk [(4, .inl (v4)), (5, .inl (v5)), (6, .inl (v6))] (List.forall_mem_cons.mpr ⟨rfl, (List.forall_mem_cons.mpr ⟨rfl, (List.forall_mem_cons.mpr ⟨rfl, (fun _ h0 => absurd h0 List.not_mem_nil)⟩)⟩)⟩) ?_
      exact hk158 v4 v5 v6 M _ h
    · rw [if_neg c1] at h
      refine sd_b_cf (c := .ge) rfl (decide_eq_false c1) (by decide) ?_
      refine sd_b_go 2 (pc2 := 87) (lv2 := [(8, .inl (0)), (0, .inr (.inr (some (331)))), (1, .inl (v1)), (2, .inl (v2)), (3, .inl (v3)), (4, .inl (v4)), (5, .inl (v5)), (6, .inl (v6)), (7, .inl (v7))]) (st2 := []) rfl ?_
      refine sd_b_wk [(0, .inr (.inr (some (331)))), (1, .inl (v1)), (2, .inl (v2)), (3, .inl (v3)), (4, .inl (v4)), (5, .inl (v5)), (6, .inl (v6)), (7, .inl (v7)), (8, .inl (0))] (List.forall_mem_cons.mpr ⟨rfl, (List.forall_mem_cons.mpr ⟨rfl, (List.forall_mem_cons.mpr ⟨rfl, (List.forall_mem_cons.mpr ⟨rfl, (List.forall_mem_cons.mpr ⟨rfl, (List.forall_mem_cons.mpr ⟨rfl, (List.forall_mem_cons.mpr ⟨rfl, (List.forall_mem_cons.mpr ⟨rfl, (List.forall_mem_cons.mpr ⟨rfl, (fun _ h0 => absurd h0 List.not_mem_nil)⟩)⟩)⟩)⟩)⟩)⟩)⟩)⟩)⟩) ?_
      exact t_X10_seasons_87 hd (f_X10_seasons_127 (f_X10_seasons_78 k158 n) k158) (t_X10_seasons_127 hd (f_X10_seasons_78 k158 n) k158 ih hk158) 4000 v1 v2 v3 v4 v5 v6 v7 0 M _ h
def f_X10_seasons_158 (v4 : Int) (v5 : Int) (v6 : Int) (M : sd_M) : Option (Int × sd_M) := if v4 = 0 then (some (v5, M)) else (some (v6, M))
set_option maxRecDepth 4000 in
theorem t_X10_seasons_158 {X : Nat → List sd_V → List sd_E → sd_A → Prop} {d : Nat} (hd : 8 ≤ d) (v4 : Int) (v5 : Int) (v6 : Int) (M : sd_M) (Rr : Int × sd_M) (h : f_X10_seasons_158 v4 v5 v6 M = some Rr) : sd_B X d sd_q_X10_seasons 158 [(4, .inl (v4)), (5, .inl (v5)), (6, .inl (v6))] [] M (some (.inl Rr.1), sd_rp Rr.2, 0, 0) := by
  unfold f_X10_seasons_158 at h
  refine sd_b_go 1 (pc2 := 160) (lv2 := [(4, .inl (v4)), (5, .inl (v5)), (6, .inl (v6))]) (st2 := [.inl (v4)]) rfl ?_
  by_cases c1 : v4 = 0
  · rw [if_pos c1] at h
    refine sd_b_zf (c := .ne) rfl (decide_eq_false (not_not_intro c1)) (by decide) ?_
    refine sd_b_go 2 (pc2 := 170) (lv2 := [(4, .inl (v4)), (5, .inl (v5)), (6, .inl (v6))]) (st2 := [.inl (v5)]) rfl ?_
    cases h
    exact sd_b_rt rfl rfl rfl
  · rw [if_neg c1] at h
    refine sd_b_zt (c := .ne) (tgt := 168) rfl (decide_eq_true c1) (by decide) ?_
    refine sd_b_go 1 (pc2 := 170) (lv2 := [(4, .inl (v4)), (5, .inl (v5)), (6, .inl (v6))]) (st2 := [.inl (v6)]) rfl ?_
    cases h
    exact sd_b_rt rfl rfl rfl
def f_X10_seasons (p1 : Int) (p2 : Int) (p3 : Int) (p4 : Int) (M : sd_M) : Option (Int × sd_M) := (f_X10_isSlip M).bind fun r1 => if r1.1 = 0 then (some ((-1), r1.2)) else ((f_X10_in p1 1 10 r1.2).bind fun r3 => if r3.1 = 0 then (some ((-1), r3.2)) else ((f_X10_in p2 1 30 r3.2).bind fun r5 => if r5.1 = 0 then (some ((-1), r5.2)) else ((f_X10_in p3 0 100 r5.2).bind fun r7 => if r7.1 = 0 then (some ((-1), r7.2)) else ((f_X10_in p4 0 1 r7.2).bind fun r9 => if r9.1 = 0 then (some ((-1), r9.2)) else ((f_X10_keeps (sd_s r9.2 331 38 (r9.2 331 22))).bind fun r11 => f_X10_seasons_78 (f_X10_seasons_158) 4000 p1 p2 p3 p4 0 0 0 r11.2)))))
set_option maxRecDepth 4000 in
theorem t_X10_seasons {X : Nat → List sd_V → List sd_E → sd_A → Prop} {d : Nat} (hd : 8 ≤ d) (p1 : Int) (p2 : Int) (p3 : Int) (p4 : Int) (M : sd_M) (Rr : Int × sd_M) (h : f_X10_seasons p1 p2 p3 p4 M = some Rr) : sd_B X d sd_q_X10_seasons 0 [(0, .inr (.inr (some (331)))), (1, .inl (p1)), (2, .inl (p2)), (3, .inl (p3)), (4, .inl (p4))] [] M (some (.inl Rr.1), sd_rp Rr.2, 0, 0) := by
  unfold f_X10_seasons at h
  refine sd_b_go 1 (pc2 := 1) (lv2 := [(0, .inr (.inr (some (331)))), (1, .inl (p1)), (2, .inl (p2)), (3, .inl (p3)), (4, .inl (p4))]) (st2 := [.inr (.inr (some (331)))]) rfl ?_
  obtain ⟨r1, e1, h⟩ := sd_bnd h
  refine sd_b_call [.inr (.inr (some (331)))] [] rfl rfl sd_i_X10_isSlip rfl rfl (Nat.le_of_ble_eq_true rfl) (sd_rc_v sd_o_331) (m_X10_isSlip (by omega) e1) ?_
  by_cases c2 : r1.1 = 0
  · rw [if_pos c2] at h
    refine sd_b_zt (c := .eq) (tgt := 54) rfl (decide_eq_true c2) (by decide) ?_
    refine sd_b_go 1 (pc2 := 55) (lv2 := [(0, .inr (.inr (some (331)))), (1, .inl (p1)), (2, .inl (p2)), (3, .inl (p3)), (4, .inl (p4))]) (st2 := [.inl ((-1))]) rfl ?_
    cases h
    exact sd_b_rt rfl rfl rfl
  · rw [if_neg c2] at h
    refine sd_b_zf (c := .eq) rfl (decide_eq_false c2) (by decide) ?_
    refine sd_b_go 4 (pc2 := 13) (lv2 := [(0, .inr (.inr (some (331)))), (1, .inl (p1)), (2, .inl (p2)), (3, .inl (p3)), (4, .inl (p4))]) (st2 := [.inr (.inl (10)), .inr (.inl (1)), .inr (.inl (p1))]) rfl ?_
    obtain ⟨r3, e3, h⟩ := sd_bnd h
    refine sd_b_call [.inr (.inl (p1)), .inr (.inl (1)), .inr (.inl (10))] [] rfl rfl sd_i_X10_in rfl rfl (Nat.le_of_ble_eq_true rfl) rfl (m_X10_in (by omega) e3) ?_
    by_cases c4 : r3.1 = 0
    · rw [if_pos c4] at h
      refine sd_b_zt (c := .eq) (tgt := 54) rfl (decide_eq_true c4) (by decide) ?_
      refine sd_b_go 1 (pc2 := 55) (lv2 := [(0, .inr (.inr (some (331)))), (1, .inl (p1)), (2, .inl (p2)), (3, .inl (p3)), (4, .inl (p4))]) (st2 := [.inl ((-1))]) rfl ?_
      cases h
      exact sd_b_rt rfl rfl rfl
    · rw [if_neg c4] at h
      refine sd_b_zf (c := .eq) rfl (decide_eq_false c4) (by decide) ?_
      refine sd_b_go 4 (pc2 := 25) (lv2 := [(0, .inr (.inr (some (331)))), (1, .inl (p1)), (2, .inl (p2)), (3, .inl (p3)), (4, .inl (p4))]) (st2 := [.inr (.inl (30)), .inr (.inl (1)), .inr (.inl (p2))]) rfl ?_
      obtain ⟨r5, e5, h⟩ := sd_bnd h
      refine sd_b_call [.inr (.inl (p2)), .inr (.inl (1)), .inr (.inl (30))] [] rfl rfl sd_i_X10_in rfl rfl (Nat.le_of_ble_eq_true rfl) rfl (m_X10_in (by omega) e5) ?_
      by_cases c6 : r5.1 = 0
      · rw [if_pos c6] at h
        refine sd_b_zt (c := .eq) (tgt := 54) rfl (decide_eq_true c6) (by decide) ?_
        refine sd_b_go 1 (pc2 := 55) (lv2 := [(0, .inr (.inr (some (331)))), (1, .inl (p1)), (2, .inl (p2)), (3, .inl (p3)), (4, .inl (p4))]) (st2 := [.inl ((-1))]) rfl ?_
        cases h
        exact sd_b_rt rfl rfl rfl
      · rw [if_neg c6] at h
        refine sd_b_zf (c := .eq) rfl (decide_eq_false c6) (by decide) ?_
        refine sd_b_go 4 (pc2 := 37) (lv2 := [(0, .inr (.inr (some (331)))), (1, .inl (p1)), (2, .inl (p2)), (3, .inl (p3)), (4, .inl (p4))]) (st2 := [.inr (.inl (100)), .inr (.inl (0)), .inr (.inl (p3))]) rfl ?_
        obtain ⟨r7, e7, h⟩ := sd_bnd h
        refine sd_b_call [.inr (.inl (p3)), .inr (.inl (0)), .inr (.inl (100))] [] rfl rfl sd_i_X10_in rfl rfl (Nat.le_of_ble_eq_true rfl) rfl (m_X10_in (by omega) e7) ?_
        by_cases c8 : r7.1 = 0
        · rw [if_pos c8] at h
          refine sd_b_zt (c := .eq) (tgt := 54) rfl (decide_eq_true c8) (by decide) ?_
          refine sd_b_go 1 (pc2 := 55) (lv2 := [(0, .inr (.inr (some (331)))), (1, .inl (p1)), (2, .inl (p2)), (3, .inl (p3)), (4, .inl (p4))]) (st2 := [.inl ((-1))]) rfl ?_
          cases h
          exact sd_b_rt rfl rfl rfl
        · rw [if_neg c8] at h
          refine sd_b_zf (c := .eq) rfl (decide_eq_false c8) (by decide) ?_
          refine sd_b_go 4 (pc2 := 48) (lv2 := [(0, .inr (.inr (some (331)))), (1, .inl (p1)), (2, .inl (p2)), (3, .inl (p3)), (4, .inl (p4))]) (st2 := [.inr (.inl (1)), .inr (.inl (0)), .inr (.inl (p4))]) rfl ?_
          obtain ⟨r9, e9, h⟩ := sd_bnd h
          refine sd_b_call [.inr (.inl (p4)), .inr (.inl (0)), .inr (.inl (1))] [] rfl rfl sd_i_X10_in rfl rfl (Nat.le_of_ble_eq_true rfl) rfl (m_X10_in (by omega) e9) ?_
          by_cases c10 : r9.1 = 0
          · rw [if_pos c10] at h
            refine sd_b_zf (c := .ne) rfl (decide_eq_false (not_not_intro c10)) (by decide) ?_
            refine sd_b_go 1 (pc2 := 55) (lv2 := [(0, .inr (.inr (some (331)))), (1, .inl (p1)), (2, .inl (p2)), (3, .inl (p3)), (4, .inl (p4))]) (st2 := [.inl ((-1))]) rfl ?_
            cases h
            exact sd_b_rt rfl rfl rfl
          · rw [if_neg c10] at h
            refine sd_b_zt (c := .ne) (tgt := 56) rfl (decide_eq_true c10) (by decide) ?_
            refine sd_b_go 2 (pc2 := 58) (lv2 := [(0, .inr (.inr (some (331)))), (1, .inl (p1)), (2, .inl (p2)), (3, .inl (p3)), (4, .inl (p4))]) (st2 := [.inr (.inr (some (331))), .inr (.inr (some (331)))]) rfl ?_
            refine sd_b_gi (k := 22) sd_o_331 rfl rfl rfl ?_
            refine sd_b_go 1 (pc2 := 62) (lv2 := [(0, .inr (.inr (some (331)))), (1, .inl (p1)), (2, .inl (p2)), (3, .inl (p3)), (4, .inl (p4))]) (st2 := [.inr (.inl (r9.2 331 22)), .inr (.inr (some (331)))]) rfl ?_
            refine sd_b_pl (k := 38) sd_o_331 rfl rfl rfl rfl rfl ?_
            refine sd_b_go 5 (pc2 := 72) (lv2 := [(6, .inl (0)), (5, .inl (0)), (0, .inr (.inr (some (331)))), (1, .inl (p1)), (2, .inl (p2)), (3, .inl (p3)), (4, .inl (p4))]) (st2 := [.inr (.inr (some (331)))]) rfl ?_
            obtain ⟨r11, e11, h⟩ := sd_bnd h
            refine sd_b_call [.inr (.inr (some (331)))] [] rfl rfl sd_i_X10_keeps rfl rfl (Nat.le_of_ble_eq_true rfl) (sd_rc_v sd_o_331) (m_X10_keeps (by omega) e11) ?_
            refine sd_b_go 2 (pc2 := 78) (lv2 := [(7, .inl (0)), (6, .inl (0)), (5, .inl (0)), (0, .inr (.inr (some (331)))), (1, .inl (p1)), (2, .inl (p2)), (3, .inl (p3)), (4, .inl (p4))]) (st2 := []) rfl ?_
            refine sd_b_wk [(0, .inr (.inr (some (331)))), (1, .inl (p1)), (2, .inl (p2)), (3, .inl (p3)), (4, .inl (p4)), (5, .inl (0)), (6, .inl (0)), (7, .inl (0))] (List.forall_mem_cons.mpr ⟨rfl, (List.forall_mem_cons.mpr ⟨rfl, (List.forall_mem_cons.mpr ⟨rfl, (List.forall_mem_cons.mpr ⟨rfl, (List.forall_mem_cons.mpr ⟨rfl, (List.forall_mem_cons.mpr ⟨rfl, (List.forall_mem_cons.mpr ⟨rfl, (List.forall_mem_cons.mpr ⟨rfl, (fun _ h0 => absurd h0 List.not_mem_nil)⟩)⟩)⟩)⟩)⟩)⟩)⟩)⟩) ?_
            exact t_X10_seasons_78 hd (f_X10_seasons_158) (t_X10_seasons_158 hd) 4000 p1 p2 p3 p4 0 0 0 r11.2 _ h
theorem m_X10_seasons {X : Nat → List sd_V → List sd_E → sd_A → Prop} {d : Nat} (hd : 9 ≤ d) {p1 : Int} {p2 : Int} {p3 : Int} {p4 : Int} {M : sd_M} {Rr : Int × sd_M} (h : f_X10_seasons p1 p2 p3 p4 M = some Rr) : sd_Cal X d 245 [.inr (.inr (some (331))), .inl (p1), .inl (p2), .inl (p3), .inl (p4)] (sd_rp M) (some (.inl Rr.1), sd_rp Rr.2, 0, 0) := by
  obtain ⟨d, rfl⟩ : ∃ d2, d = d2 + 1 := ⟨d - 1, by omega⟩
  exact sd_cal_of sd_i_X10_seasons (Nat.le_of_ble_eq_true rfl) (t_X10_seasons (by omega) p1 p2 p3 p4 M Rr h)
-- X10_count
def sd_q_X10_count : sd_MI := (yX10_count, cX10_count, 2, (some .int), 10, 1, sd_t_X10_count)
set_option maxRecDepth 4000 in
theorem sd_i_X10_count : sd_mL[246]? = some sd_q_X10_count := rfl
def f_X10_count (p1 : Int) (M : sd_M) : Option (Int × sd_M) := if p1 = 0 then (some (M 341 59, M)) else (if p1 = 1 then (some (M 341 2, M)) else (if p1 = 2 then (some (M 331 2, M)) else (if p1 = 3 then (some (M 331 21, M)) else (if p1 = 4 then (some (M 341 58, M)) else (if p1 = 5 then ((f_X10_onesAt 0 M).bind fun r7 => some (r7.1, r7.2)) else (if p1 = 6 then ((f_X10_onesAt 1 M).bind fun r9 => some (r9.1, r9.2)) else (if p1 = 7 then ((f_X10_placed M).bind fun r11 => some (r11.1, r11.2)) else (if p1 = 8 then ((f_X10_shortNow M).bind fun r13 => some (r13.1, r13.2)) else (if p1 = 9 then ((f_X10_signedAll M).bind fun r15 => some (r15.1, r15.2)) else (if p1 = 10 then (some (M 341 61, M)) else (if p1 = 11 then (some (M 341 127, M)) else (if p1 = 12 then (some (M 331 27, M)) else (if p1 = 13 then (some (M 331 22, M)) else (if p1 = 14 then (some (M 331 1, M)) else (some ((-1), M))))))))))))))))
set_option maxRecDepth 4000 in
theorem t_X10_count {X : Nat → List sd_V → List sd_E → sd_A → Prop} {d : Nat} (hd : 3 ≤ d) (p1 : Int) (M : sd_M) (Rr : Int × sd_M) (h : f_X10_count p1 M = some Rr) : sd_B X d sd_q_X10_count 0 [(0, .inr (.inr (some (331)))), (1, .inl (p1))] [] M (some (.inl Rr.1), sd_rp Rr.2, 0, 0) := by
  unfold f_X10_count at h
  refine sd_b_go 1 (pc2 := 1) (lv2 := [(0, .inr (.inr (some (331)))), (1, .inl (p1))]) (st2 := [.inl (p1)]) rfl ?_
  by_cases c1 : p1 = 0
  · rw [if_pos c1] at h
    refine sd_b_eq c1 ?_
    refine sd_b_go 1 (pc2 := 76) (lv2 := [(0, .inr (.inr (some (331)))), (1, .inl (p1))]) (st2 := []) rfl ?_
    refine sd_b_go 1 (pc2 := 77) (lv2 := [(0, .inr (.inr (some (331)))), (1, .inl (p1))]) (st2 := [.inr (.inr (some (331)))]) rfl ?_
    refine sd_b_gr (k := 20) sd_o_331 rfl rfl rfl ?_
    refine sd_b_go 1 (pc2 := 82) (lv2 := [(0, .inr (.inr (some (331)))), (1, .inl (p1))]) (st2 := [.inl (59), .inr (.inr (some (341)))]) rfl ?_
    refine sd_b_ai (i := 59) (sd_oa sd_o_331 (by decide) (off := 10) (List.mem_of_getElem? (i := 9) rfl)) (by decide) rfl ?_
    cases h
    exact sd_b_rt rfl rfl rfl
  · rw [if_neg c1] at h
    by_cases c2 : p1 = 1
    · rw [if_pos c2] at h
      refine sd_b_eq c2 ?_
      refine sd_b_go 1 (pc2 := 84) (lv2 := [(0, .inr (.inr (some (331)))), (1, .inl (p1))]) (st2 := []) rfl ?_
      refine sd_b_go 1 (pc2 := 85) (lv2 := [(0, .inr (.inr (some (331)))), (1, .inl (p1))]) (st2 := [.inr (.inr (some (331)))]) rfl ?_
      refine sd_b_gr (k := 20) sd_o_331 rfl rfl rfl ?_
      refine sd_b_go 1 (pc2 := 89) (lv2 := [(0, .inr (.inr (some (331)))), (1, .inl (p1))]) (st2 := [.inl (2), .inr (.inr (some (341)))]) rfl ?_
      refine sd_b_ai (i := 2) (sd_oa sd_o_331 (by decide) (off := 10) (List.mem_of_getElem? (i := 9) rfl)) (by decide) rfl ?_
      cases h
      exact sd_b_rt rfl rfl rfl
    · rw [if_neg c2] at h
      by_cases c3 : p1 = 2
      · rw [if_pos c3] at h
        refine sd_b_eq c3 ?_
        refine sd_b_go 1 (pc2 := 91) (lv2 := [(0, .inr (.inr (some (331)))), (1, .inl (p1))]) (st2 := []) rfl ?_
        refine sd_b_go 1 (pc2 := 92) (lv2 := [(0, .inr (.inr (some (331)))), (1, .inl (p1))]) (st2 := [.inr (.inr (some (331)))]) rfl ?_
        refine sd_b_gi (k := 2) sd_o_331 rfl rfl rfl ?_
        cases h
        exact sd_b_rt rfl rfl rfl
      · rw [if_neg c3] at h
        by_cases c4 : p1 = 3
        · rw [if_pos c4] at h
          refine sd_b_eq c4 ?_
          refine sd_b_go 1 (pc2 := 96) (lv2 := [(0, .inr (.inr (some (331)))), (1, .inl (p1))]) (st2 := []) rfl ?_
          refine sd_b_go 1 (pc2 := 97) (lv2 := [(0, .inr (.inr (some (331)))), (1, .inl (p1))]) (st2 := [.inr (.inr (some (331)))]) rfl ?_
          refine sd_b_gi (k := 21) sd_o_331 rfl rfl rfl ?_
          cases h
          exact sd_b_rt rfl rfl rfl
        · rw [if_neg c4] at h
          by_cases c5 : p1 = 4
          · rw [if_pos c5] at h
            refine sd_b_eq c5 ?_
            refine sd_b_go 1 (pc2 := 101) (lv2 := [(0, .inr (.inr (some (331)))), (1, .inl (p1))]) (st2 := []) rfl ?_
            refine sd_b_go 1 (pc2 := 102) (lv2 := [(0, .inr (.inr (some (331)))), (1, .inl (p1))]) (st2 := [.inr (.inr (some (331)))]) rfl ?_
            refine sd_b_gr (k := 20) sd_o_331 rfl rfl rfl ?_
            refine sd_b_go 1 (pc2 := 107) (lv2 := [(0, .inr (.inr (some (331)))), (1, .inl (p1))]) (st2 := [.inl (58), .inr (.inr (some (341)))]) rfl ?_
            refine sd_b_ai (i := 58) (sd_oa sd_o_331 (by decide) (off := 10) (List.mem_of_getElem? (i := 9) rfl)) (by decide) rfl ?_
            cases h
            exact sd_b_rt rfl rfl rfl
          · rw [if_neg c5] at h
            by_cases c6 : p1 = 5
            · rw [if_pos c6] at h
              refine sd_b_eq c6 ?_
              refine sd_b_go 1 (pc2 := 109) (lv2 := [(0, .inr (.inr (some (331)))), (1, .inl (p1))]) (st2 := []) rfl ?_
              refine sd_b_go 2 (pc2 := 111) (lv2 := [(0, .inr (.inr (some (331)))), (1, .inl (p1))]) (st2 := [.inl (0), .inr (.inr (some (331)))]) rfl ?_
              obtain ⟨r7, e7, h⟩ := sd_bnd h
              refine sd_b_call [.inr (.inr (some (331))), .inl (0)] [] rfl rfl sd_i_X10_onesAt rfl rfl (Nat.le_of_ble_eq_true rfl) (sd_rc_v sd_o_331) (m_X10_onesAt (by omega) e7) ?_
              cases h
              exact sd_b_rt rfl rfl rfl
            · rw [if_neg c6] at h
              by_cases c8 : p1 = 6
              · rw [if_pos c8] at h
                refine sd_b_eq c8 ?_
                refine sd_b_go 1 (pc2 := 115) (lv2 := [(0, .inr (.inr (some (331)))), (1, .inl (p1))]) (st2 := []) rfl ?_
                refine sd_b_go 2 (pc2 := 117) (lv2 := [(0, .inr (.inr (some (331)))), (1, .inl (p1))]) (st2 := [.inl (1), .inr (.inr (some (331)))]) rfl ?_
                obtain ⟨r9, e9, h⟩ := sd_bnd h
                refine sd_b_call [.inr (.inr (some (331))), .inl (1)] [] rfl rfl sd_i_X10_onesAt rfl rfl (Nat.le_of_ble_eq_true rfl) (sd_rc_v sd_o_331) (m_X10_onesAt (by omega) e9) ?_
                cases h
                exact sd_b_rt rfl rfl rfl
              · rw [if_neg c8] at h
                by_cases c10 : p1 = 7
                · rw [if_pos c10] at h
                  refine sd_b_eq c10 ?_
                  refine sd_b_go 1 (pc2 := 121) (lv2 := [(0, .inr (.inr (some (331)))), (1, .inl (p1))]) (st2 := []) rfl ?_
                  refine sd_b_go 1 (pc2 := 122) (lv2 := [(0, .inr (.inr (some (331)))), (1, .inl (p1))]) (st2 := [.inr (.inr (some (331)))]) rfl ?_
                  obtain ⟨r11, e11, h⟩ := sd_bnd h
                  refine sd_b_call [.inr (.inr (some (331)))] [] rfl rfl sd_i_X10_placed rfl rfl (Nat.le_of_ble_eq_true rfl) (sd_rc_v sd_o_331) (m_X10_placed (by omega) e11) ?_
                  cases h
                  exact sd_b_rt rfl rfl rfl
                · rw [if_neg c10] at h
                  by_cases c12 : p1 = 8
                  · rw [if_pos c12] at h
                    refine sd_b_eq c12 ?_
                    refine sd_b_go 1 (pc2 := 126) (lv2 := [(0, .inr (.inr (some (331)))), (1, .inl (p1))]) (st2 := []) rfl ?_
                    refine sd_b_go 1 (pc2 := 127) (lv2 := [(0, .inr (.inr (some (331)))), (1, .inl (p1))]) (st2 := [.inr (.inr (some (331)))]) rfl ?_
                    obtain ⟨r13, e13, h⟩ := sd_bnd h
                    refine sd_b_call [.inr (.inr (some (331)))] [] rfl rfl sd_i_X10_shortNow rfl rfl (Nat.le_of_ble_eq_true rfl) (sd_rc_v sd_o_331) (m_X10_shortNow (by omega) e13) ?_
                    cases h
                    exact sd_b_rt rfl rfl rfl
                  · rw [if_neg c12] at h
                    by_cases c14 : p1 = 9
                    · rw [if_pos c14] at h
                      refine sd_b_eq c14 ?_
                      refine sd_b_go 1 (pc2 := 131) (lv2 := [(0, .inr (.inr (some (331)))), (1, .inl (p1))]) (st2 := []) rfl ?_
                      refine sd_b_go 1 (pc2 := 132) (lv2 := [(0, .inr (.inr (some (331)))), (1, .inl (p1))]) (st2 := [.inr (.inr (some (331)))]) rfl ?_
                      obtain ⟨r15, e15, h⟩ := sd_bnd h
                      refine sd_b_call [.inr (.inr (some (331)))] [] rfl rfl sd_i_X10_signedAll rfl rfl (Nat.le_of_ble_eq_true rfl) (sd_rc_v sd_o_331) (m_X10_signedAll (by omega) e15) ?_
                      cases h
                      exact sd_b_rt rfl rfl rfl
                    · rw [if_neg c14] at h
                      by_cases c16 : p1 = 10
                      · rw [if_pos c16] at h
                        refine sd_b_eq c16 ?_
                        refine sd_b_go 1 (pc2 := 136) (lv2 := [(0, .inr (.inr (some (331)))), (1, .inl (p1))]) (st2 := []) rfl ?_
                        refine sd_b_go 1 (pc2 := 137) (lv2 := [(0, .inr (.inr (some (331)))), (1, .inl (p1))]) (st2 := [.inr (.inr (some (331)))]) rfl ?_
                        refine sd_b_gr (k := 20) sd_o_331 rfl rfl rfl ?_
                        refine sd_b_go 1 (pc2 := 142) (lv2 := [(0, .inr (.inr (some (331)))), (1, .inl (p1))]) (st2 := [.inl (61), .inr (.inr (some (341)))]) rfl ?_
                        refine sd_b_ai (i := 61) (sd_oa sd_o_331 (by decide) (off := 10) (List.mem_of_getElem? (i := 9) rfl)) (by decide) rfl ?_
                        cases h
                        exact sd_b_rt rfl rfl rfl
                      · rw [if_neg c16] at h
                        by_cases c17 : p1 = 11
                        · rw [if_pos c17] at h
                          refine sd_b_eq c17 ?_
                          refine sd_b_go 1 (pc2 := 144) (lv2 := [(0, .inr (.inr (some (331)))), (1, .inl (p1))]) (st2 := []) rfl ?_
                          refine sd_b_go 1 (pc2 := 145) (lv2 := [(0, .inr (.inr (some (331)))), (1, .inl (p1))]) (st2 := [.inr (.inr (some (331)))]) rfl ?_
                          refine sd_b_gr (k := 20) sd_o_331 rfl rfl rfl ?_
                          refine sd_b_go 1 (pc2 := 150) (lv2 := [(0, .inr (.inr (some (331)))), (1, .inl (p1))]) (st2 := [.inl (127), .inr (.inr (some (341)))]) rfl ?_
                          refine sd_b_ai (i := 127) (sd_oa sd_o_331 (by decide) (off := 10) (List.mem_of_getElem? (i := 9) rfl)) (by decide) rfl ?_
                          cases h
                          exact sd_b_rt rfl rfl rfl
                        · rw [if_neg c17] at h
                          by_cases c18 : p1 = 12
                          · rw [if_pos c18] at h
                            refine sd_b_eq c18 ?_
                            refine sd_b_go 1 (pc2 := 152) (lv2 := [(0, .inr (.inr (some (331)))), (1, .inl (p1))]) (st2 := []) rfl ?_
                            refine sd_b_go 1 (pc2 := 153) (lv2 := [(0, .inr (.inr (some (331)))), (1, .inl (p1))]) (st2 := [.inr (.inr (some (331)))]) rfl ?_
                            refine sd_b_gi (k := 27) sd_o_331 rfl rfl rfl ?_
                            cases h
                            exact sd_b_rt rfl rfl rfl
                          · rw [if_neg c18] at h
                            by_cases c19 : p1 = 13
                            · rw [if_pos c19] at h
                              refine sd_b_eq c19 ?_
                              refine sd_b_go 1 (pc2 := 157) (lv2 := [(0, .inr (.inr (some (331)))), (1, .inl (p1))]) (st2 := []) rfl ?_
                              refine sd_b_go 1 (pc2 := 158) (lv2 := [(0, .inr (.inr (some (331)))), (1, .inl (p1))]) (st2 := [.inr (.inr (some (331)))]) rfl ?_
                              refine sd_b_gi (k := 22) sd_o_331 rfl rfl rfl ?_
                              cases h
                              exact sd_b_rt rfl rfl rfl
                            · rw [if_neg c19] at h
                              by_cases c20 : p1 = 14
                              · rw [if_pos c20] at h
                                refine sd_b_eq c20 ?_
                                refine sd_b_go 1 (pc2 := 162) (lv2 := [(0, .inr (.inr (some (331)))), (1, .inl (p1))]) (st2 := []) rfl ?_
                                refine sd_b_go 1 (pc2 := 163) (lv2 := [(0, .inr (.inr (some (331)))), (1, .inl (p1))]) (st2 := [.inr (.inr (some (331)))]) rfl ?_
                                refine sd_b_gi (k := 1) sd_o_331 rfl rfl rfl ?_
                                cases h
                                exact sd_b_rt rfl rfl rfl
                              · rw [if_neg c20] at h
                                refine sd_b_td (tgt := 167) rfl (by omega) (by decide) ?_
                                refine sd_b_go 1 (pc2 := 168) (lv2 := [(0, .inr (.inr (some (331)))), (1, .inl (p1))]) (st2 := [.inl ((-1))]) rfl ?_
                                cases h
                                exact sd_b_rt rfl rfl rfl
theorem m_X10_count {X : Nat → List sd_V → List sd_E → sd_A → Prop} {d : Nat} (hd : 4 ≤ d) {p1 : Int} {M : sd_M} {Rr : Int × sd_M} (h : f_X10_count p1 M = some Rr) : sd_Cal X d 246 [.inr (.inr (some (331))), .inl (p1)] (sd_rp M) (some (.inl Rr.1), sd_rp Rr.2, 0, 0) := by
  obtain ⟨d, rfl⟩ : ∃ d2, d = d2 + 1 := ⟨d - 1, by omega⟩
  exact sd_cal_of sd_i_X10_count (Nat.le_of_ble_eq_true rfl) (t_X10_count (by omega) p1 M Rr h)
-- X10_image
def sd_q_X10_image : sd_MI := (yX10_image, cX10_image, 3, (some .int), 10, 1, sd_t_X10_image)
set_option maxRecDepth 4000 in
theorem sd_i_X10_image : sd_mL[247]? = some sd_q_X10_image := rfl
def f_X10_image_43 (k74 : sd_M → Option (Int × sd_M)) : Nat → Int → Int → sd_M → Option (Int × sd_M)
  | 0, _, _, _ => none
  | n + 1, v1, v2, M => if 128 ≤ v2 then (k74 M) else (if 0 ≤ v2 ∧ v2 < 128 then (if 0 ≤ (sd_w ((sd_w (128 * v1)) + v2)) ∧ (sd_w ((sd_w (128 * v1)) + v2)) < 512 then (f_X10_image_43 k74 n v1 (sd_w (v2 + 1)) (sd_s M 353 (sd_w ((sd_w (128 * v1)) + v2)).toNat (M 341 v2.toNat))) else none) else none)
set_option maxRecDepth 4000 in
theorem t_X10_image_43 {X : Nat → List sd_V → List sd_E → sd_A → Prop} {d : Nat} (hd : 1 ≤ d) (k74 : sd_M → Option (Int × sd_M)) (hk74 : ∀ (M : sd_M) (Rr : Int × sd_M), k74 M = some Rr → sd_B X d sd_q_X10_image 74 [(0, .inr (.inr (some (331))))] [] M (some (.inl Rr.1), sd_rp Rr.2, 0, 0)) : ∀ (n : Nat) (v1 : Int) (v2 : Int) (M : sd_M) (Rr : Int × sd_M), f_X10_image_43 k74 n v1 v2 M = some Rr → sd_B X d sd_q_X10_image 43 [(0, .inr (.inr (some (331)))), (1, .inl (v1)), (2, .inl (v2))] [] M (some (.inl Rr.1), sd_rp Rr.2, 0, 0) := by
  intro n
  induction n with
  | zero => intro v1 v2 M Rr h; cases h
  | succ n ih =>
    intro v1 v2 M Rr h
    rw [f_X10_image_43] at h
    refine sd_b_go 2 (pc2 := 47) (lv2 := [(0, .inr (.inr (some (331)))), (1, .inl (v1)), (2, .inl (v2))]) (st2 := [.inl (128), .inl (v2)]) rfl ?_
    by_cases c1 : 128 ≤ v2
    · rw [if_pos c1] at h
      refine sd_b_ct (c := .ge) (tgt := 74) rfl (decide_eq_true c1) (by decide) ?_
      refine sd_b_wk [(0, .inr (.inr (some (331))))] (List.forall_mem_cons.mpr ⟨rfl, (fun _ h0 => absurd h0 List.not_mem_nil)⟩) ?_
      exact hk74 M _ h
    · rw [if_neg c1] at h
      refine sd_b_cf (c := .ge) rfl (decide_eq_false c1) (by decide) ?_
      refine sd_b_go 1 (pc2 := 51) (lv2 := [(0, .inr (.inr (some (331)))), (1, .inl (v1)), (2, .inl (v2))]) (st2 := [.inr (.inr (some (331)))]) rfl ?_
      refine sd_b_gr (k := 39) sd_o_331 rfl rfl rfl ?_
      refine sd_b_go 6 (pc2 := 62) (lv2 := [(0, .inr (.inr (some (331)))), (1, .inl (v1)), (2, .inl (v2))]) (st2 := [.inr (.inr (some (331))), .inl (sd_w ((sd_w (128 * v1)) + v2)), .inr (.inr (some (353)))]) rfl ?_
      refine sd_b_gr (k := 20) sd_o_331 rfl rfl rfl ?_
      refine sd_b_go 1 (pc2 := 66) (lv2 := [(0, .inr (.inr (some (331)))), (1, .inl (v1)), (2, .inl (v2))]) (st2 := [.inl (v2), .inr (.inr (some (341))), .inl (sd_w ((sd_w (128 * v1)) + v2)), .inr (.inr (some (353)))]) rfl ?_
      obtain ⟨g2, h⟩ := sd_if h
      refine sd_b_ai (sd_oa sd_o_331 (by decide) (off := 10) (List.mem_of_getElem? (i := 9) rfl)) g2 rfl ?_
      obtain ⟨g3, h⟩ := sd_if h
      refine sd_b_si (sd_oa sd_o_331 (by decide) (off := 22) (List.mem_of_getElem? (i := 21) rfl)) g3 rfl ?_
      refine sd_b_go 2 (pc2 := 43) (lv2 := [(2, .inl (sd_w (v2 + 1))), (0, .inr (.inr (some (331)))), (1, .inl (v1))]) (st2 := []) rfl ?_
      refine sd_b_wk [(0, .inr (.inr (some (331)))), (1, .inl (v1)), (2, .inl (sd_w (v2 + 1)))] (List.forall_mem_cons.mpr ⟨rfl, (List.forall_mem_cons.mpr ⟨rfl, (List.forall_mem_cons.mpr ⟨rfl, (fun _ h0 => absurd h0 List.not_mem_nil)⟩)⟩)⟩) ?_
      exact ih v1 (sd_w (v2 + 1)) (sd_s M 353 (sd_w ((sd_w (128 * v1)) + v2)).toNat (M 341 v2.toNat)) _ h
def f_X10_image_74 (M : sd_M) : Option (Int × sd_M) := some (M 341 58, M)
set_option maxRecDepth 4000 in
theorem t_X10_image_74 {X : Nat → List sd_V → List sd_E → sd_A → Prop} {d : Nat} (hd : 1 ≤ d) (M : sd_M) (Rr : Int × sd_M) (h : f_X10_image_74 M = some Rr) : sd_B X d sd_q_X10_image 74 [(0, .inr (.inr (some (331))))] [] M (some (.inl Rr.1), sd_rp Rr.2, 0, 0) := by
  unfold f_X10_image_74 at h
  refine sd_b_go 1 (pc2 := 75) (lv2 := [(0, .inr (.inr (some (331))))]) (st2 := [.inr (.inr (some (331)))]) rfl ?_
  refine sd_b_gr (k := 20) sd_o_331 rfl rfl rfl ?_
  refine sd_b_go 1 (pc2 := 80) (lv2 := [(0, .inr (.inr (some (331))))]) (st2 := [.inl (58), .inr (.inr (some (341)))]) rfl ?_
  refine sd_b_ai (i := 58) (sd_oa sd_o_331 (by decide) (off := 10) (List.mem_of_getElem? (i := 9) rfl)) (by decide) rfl ?_
  cases h
  exact sd_b_rt rfl rfl rfl
def f_X10_image (p1 : Int) (M : sd_M) : Option (Int × sd_M) := (f_X10_in p1 0 3 M).bind fun r1 => if r1.1 = 0 then (some ((-1), r1.2)) else (if 0 ≤ p1 ∧ p1 < 4 then (if 0 ≤ p1 ∧ p1 < 4 then (if 0 ≤ p1 ∧ p1 < 4 then (f_X10_image_43 (f_X10_image_74) 4000 p1 0 (sd_s (sd_s (sd_s r1.2 356 p1.toNat 1) 354 p1.toNat (sd_s r1.2 356 p1.toNat 1 331 21)) 355 p1.toNat (sd_s (sd_s r1.2 356 p1.toNat 1) 354 p1.toNat (sd_s r1.2 356 p1.toNat 1 331 21) 331 22))) else none) else none) else none)
set_option maxRecDepth 4000 in
theorem t_X10_image {X : Nat → List sd_V → List sd_E → sd_A → Prop} {d : Nat} (hd : 1 ≤ d) (p1 : Int) (M : sd_M) (Rr : Int × sd_M) (h : f_X10_image p1 M = some Rr) : sd_B X d sd_q_X10_image 0 [(0, .inr (.inr (some (331)))), (1, .inl (p1))] [] M (some (.inl Rr.1), sd_rp Rr.2, 0, 0) := by
  unfold f_X10_image at h
  refine sd_b_go 4 (pc2 := 6) (lv2 := [(0, .inr (.inr (some (331)))), (1, .inl (p1))]) (st2 := [.inr (.inl (3)), .inr (.inl (0)), .inr (.inl (p1))]) rfl ?_
  obtain ⟨r1, e1, h⟩ := sd_bnd h
  refine sd_b_call [.inr (.inl (p1)), .inr (.inl (0)), .inr (.inl (3))] [] rfl rfl sd_i_X10_in rfl rfl (Nat.le_of_ble_eq_true rfl) rfl (m_X10_in (by omega) e1) ?_
  by_cases c2 : r1.1 = 0
  · rw [if_pos c2] at h
    refine sd_b_zf (c := .ne) rfl (decide_eq_false (not_not_intro c2)) (by decide) ?_
    refine sd_b_go 1 (pc2 := 13) (lv2 := [(0, .inr (.inr (some (331)))), (1, .inl (p1))]) (st2 := [.inl ((-1))]) rfl ?_
    cases h
    exact sd_b_rt rfl rfl rfl
  · rw [if_neg c2] at h
    refine sd_b_zt (c := .ne) (tgt := 14) rfl (decide_eq_true c2) (by decide) ?_
    refine sd_b_go 1 (pc2 := 15) (lv2 := [(0, .inr (.inr (some (331)))), (1, .inl (p1))]) (st2 := [.inr (.inr (some (331)))]) rfl ?_
    refine sd_b_gr (k := 42) sd_o_331 rfl rfl rfl ?_
    refine sd_b_go 2 (pc2 := 20) (lv2 := [(0, .inr (.inr (some (331)))), (1, .inl (p1))]) (st2 := [.inl (1), .inl (p1), .inr (.inr (some (356)))]) rfl ?_
    obtain ⟨g3, h⟩ := sd_if h
    refine sd_b_sz (sd_oa sd_o_331 (by decide) (off := 25) (List.mem_of_getElem? (i := 24) rfl)) (by decide) g3 rfl ?_
    refine sd_b_go 1 (pc2 := 22) (lv2 := [(0, .inr (.inr (some (331)))), (1, .inl (p1))]) (st2 := [.inr (.inr (some (331)))]) rfl ?_
    refine sd_b_gr (k := 40) sd_o_331 rfl rfl rfl ?_
    refine sd_b_go 2 (pc2 := 27) (lv2 := [(0, .inr (.inr (some (331)))), (1, .inl (p1))]) (st2 := [.inr (.inr (some (331))), .inl (p1), .inr (.inr (some (354)))]) rfl ?_
    refine sd_b_gi (k := 21) sd_o_331 rfl rfl rfl ?_
    obtain ⟨g4, h⟩ := sd_if h
    refine sd_b_si (sd_oa sd_o_331 (by decide) (off := 23) (List.mem_of_getElem? (i := 22) rfl)) g4 rfl ?_
    refine sd_b_go 1 (pc2 := 32) (lv2 := [(0, .inr (.inr (some (331)))), (1, .inl (p1))]) (st2 := [.inr (.inr (some (331)))]) rfl ?_
    refine sd_b_gr (k := 41) sd_o_331 rfl rfl rfl ?_
    refine sd_b_go 2 (pc2 := 37) (lv2 := [(0, .inr (.inr (some (331)))), (1, .inl (p1))]) (st2 := [.inr (.inr (some (331))), .inl (p1), .inr (.inr (some (355)))]) rfl ?_
    refine sd_b_gi (k := 22) sd_o_331 rfl rfl rfl ?_
    obtain ⟨g5, h⟩ := sd_if h
    refine sd_b_si (sd_oa sd_o_331 (by decide) (off := 24) (List.mem_of_getElem? (i := 23) rfl)) g5 rfl ?_
    refine sd_b_go 2 (pc2 := 43) (lv2 := [(2, .inl (0)), (0, .inr (.inr (some (331)))), (1, .inl (p1))]) (st2 := []) rfl ?_
    refine sd_b_wk [(0, .inr (.inr (some (331)))), (1, .inl (p1)), (2, .inl (0))] (List.forall_mem_cons.mpr ⟨rfl, (List.forall_mem_cons.mpr ⟨rfl, (List.forall_mem_cons.mpr ⟨rfl, (fun _ h0 => absurd h0 List.not_mem_nil)⟩)⟩)⟩) ?_
    exact t_X10_image_43 hd (f_X10_image_74) (t_X10_image_74 hd) 4000 p1 0 (sd_s (sd_s (sd_s r1.2 356 p1.toNat 1) 354 p1.toNat (sd_s r1.2 356 p1.toNat 1 331 21)) 355 p1.toNat (sd_s (sd_s r1.2 356 p1.toNat 1) 354 p1.toNat (sd_s r1.2 356 p1.toNat 1 331 21) 331 22)) _ h
theorem m_X10_image {X : Nat → List sd_V → List sd_E → sd_A → Prop} {d : Nat} (hd : 2 ≤ d) {p1 : Int} {M : sd_M} {Rr : Int × sd_M} (h : f_X10_image p1 M = some Rr) : sd_Cal X d 247 [.inr (.inr (some (331))), .inl (p1)] (sd_rp M) (some (.inl Rr.1), sd_rp Rr.2, 0, 0) := by
  obtain ⟨d, rfl⟩ : ∃ d2, d = d2 + 1 := ⟨d - 1, by omega⟩
  exact sd_cal_of sd_i_X10_image (Nat.le_of_ble_eq_true rfl) (t_X10_image (by omega) p1 M Rr h)
-- X10_back
def sd_q_X10_back : sd_MI := (yX10_back, cX10_back, 3, (some .int), 10, 1, sd_t_X10_back)
set_option maxRecDepth 4000 in
theorem sd_i_X10_back : sd_mL[248]? = some sd_q_X10_back := rfl
def f_X10_back_50 (k81 : sd_M → Option (Int × sd_M)) : Nat → Int → Int → sd_M → Option (Int × sd_M)
  | 0, _, _, _ => none
  | n + 1, v1, v2, M => if 128 ≤ v2 then (k81 M) else (if 0 ≤ (sd_w ((sd_w (128 * v1)) + v2)) ∧ (sd_w ((sd_w (128 * v1)) + v2)) < 512 then (if 0 ≤ v2 ∧ v2 < 128 then (f_X10_back_50 k81 n v1 (sd_w (v2 + 1)) (sd_s M 341 v2.toNat (M 353 (sd_w ((sd_w (128 * v1)) + v2)).toNat))) else none) else none)
set_option maxRecDepth 4000 in
theorem t_X10_back_50 {X : Nat → List sd_V → List sd_E → sd_A → Prop} {d : Nat} (hd : 1 ≤ d) (k81 : sd_M → Option (Int × sd_M)) (hk81 : ∀ (M : sd_M) (Rr : Int × sd_M), k81 M = some Rr → sd_B X d sd_q_X10_back 81 [(0, .inr (.inr (some (331))))] [] M (some (.inl Rr.1), sd_rp Rr.2, 0, 0)) : ∀ (n : Nat) (v1 : Int) (v2 : Int) (M : sd_M) (Rr : Int × sd_M), f_X10_back_50 k81 n v1 v2 M = some Rr → sd_B X d sd_q_X10_back 50 [(0, .inr (.inr (some (331)))), (1, .inl (v1)), (2, .inl (v2))] [] M (some (.inl Rr.1), sd_rp Rr.2, 0, 0) := by
  intro n
  induction n with
  | zero => intro v1 v2 M Rr h; cases h
  | succ n ih =>
    intro v1 v2 M Rr h
    rw [f_X10_back_50] at h
    refine sd_b_go 2 (pc2 := 54) (lv2 := [(0, .inr (.inr (some (331)))), (1, .inl (v1)), (2, .inl (v2))]) (st2 := [.inl (128), .inl (v2)]) rfl ?_
    by_cases c1 : 128 ≤ v2
    · rw [if_pos c1] at h
      refine sd_b_ct (c := .ge) (tgt := 81) rfl (decide_eq_true c1) (by decide) ?_
      refine sd_b_wk [(0, .inr (.inr (some (331))))] (List.forall_mem_cons.mpr ⟨rfl, (fun _ h0 => absurd h0 List.not_mem_nil)⟩) ?_
      exact hk81 M _ h
    · rw [if_neg c1] at h
      refine sd_b_cf (c := .ge) rfl (decide_eq_false c1) (by decide) ?_
      refine sd_b_go 1 (pc2 := 58) (lv2 := [(0, .inr (.inr (some (331)))), (1, .inl (v1)), (2, .inl (v2))]) (st2 := [.inr (.inr (some (331)))]) rfl ?_
      refine sd_b_gr (k := 20) sd_o_331 rfl rfl rfl ?_
      refine sd_b_go 2 (pc2 := 63) (lv2 := [(0, .inr (.inr (some (331)))), (1, .inl (v1)), (2, .inl (v2))]) (st2 := [.inr (.inr (some (331))), .inl (v2), .inr (.inr (some (341)))]) rfl ?_
      refine sd_b_gr (k := 39) sd_o_331 rfl rfl rfl ?_
      refine sd_b_go 5 (pc2 := 73) (lv2 := [(0, .inr (.inr (some (331)))), (1, .inl (v1)), (2, .inl (v2))]) (st2 := [.inl (sd_w ((sd_w (128 * v1)) + v2)), .inr (.inr (some (353))), .inl (v2), .inr (.inr (some (341)))]) rfl ?_
      obtain ⟨g2, h⟩ := sd_if h
      refine sd_b_ai (sd_oa sd_o_331 (by decide) (off := 22) (List.mem_of_getElem? (i := 21) rfl)) g2 rfl ?_
      obtain ⟨g3, h⟩ := sd_if h
      refine sd_b_si (sd_oa sd_o_331 (by decide) (off := 10) (List.mem_of_getElem? (i := 9) rfl)) g3 rfl ?_
      refine sd_b_go 2 (pc2 := 50) (lv2 := [(2, .inl (sd_w (v2 + 1))), (0, .inr (.inr (some (331)))), (1, .inl (v1))]) (st2 := []) rfl ?_
      refine sd_b_wk [(0, .inr (.inr (some (331)))), (1, .inl (v1)), (2, .inl (sd_w (v2 + 1)))] (List.forall_mem_cons.mpr ⟨rfl, (List.forall_mem_cons.mpr ⟨rfl, (List.forall_mem_cons.mpr ⟨rfl, (fun _ h0 => absurd h0 List.not_mem_nil)⟩)⟩)⟩) ?_
      exact ih v1 (sd_w (v2 + 1)) (sd_s M 341 v2.toNat (M 353 (sd_w ((sd_w (128 * v1)) + v2)).toNat)) _ h
def f_X10_back_81 (M : sd_M) : Option (Int × sd_M) := some (M 341 58, M)
set_option maxRecDepth 4000 in
theorem t_X10_back_81 {X : Nat → List sd_V → List sd_E → sd_A → Prop} {d : Nat} (hd : 1 ≤ d) (M : sd_M) (Rr : Int × sd_M) (h : f_X10_back_81 M = some Rr) : sd_B X d sd_q_X10_back 81 [(0, .inr (.inr (some (331))))] [] M (some (.inl Rr.1), sd_rp Rr.2, 0, 0) := by
  unfold f_X10_back_81 at h
  refine sd_b_go 1 (pc2 := 82) (lv2 := [(0, .inr (.inr (some (331))))]) (st2 := [.inr (.inr (some (331)))]) rfl ?_
  refine sd_b_gr (k := 20) sd_o_331 rfl rfl rfl ?_
  refine sd_b_go 1 (pc2 := 87) (lv2 := [(0, .inr (.inr (some (331))))]) (st2 := [.inl (58), .inr (.inr (some (341)))]) rfl ?_
  refine sd_b_ai (i := 58) (sd_oa sd_o_331 (by decide) (off := 10) (List.mem_of_getElem? (i := 9) rfl)) (by decide) rfl ?_
  cases h
  exact sd_b_rt rfl rfl rfl
def f_X10_back (p1 : Int) (M : sd_M) : Option (Int × sd_M) := (f_X10_in p1 0 3 M).bind fun r1 => if r1.1 = 0 then (some ((-1), r1.2)) else (if 0 ≤ p1 ∧ p1 < 4 then (if ((r1.2) 356 p1.toNat) = 0 then (some ((-1), r1.2)) else (if 0 ≤ p1 ∧ p1 < 4 then (if 0 ≤ p1 ∧ p1 < 4 then (f_X10_back_50 (f_X10_back_81) 4000 p1 0 (sd_s (sd_s (sd_s r1.2 331 21 ((r1.2) 354 p1.toNat)) 331 22 ((sd_s r1.2 331 21 ((r1.2) 354 p1.toNat)) 355 p1.toNat)) 331 27 0)) else none) else none)) else none)
set_option maxRecDepth 4000 in
theorem t_X10_back {X : Nat → List sd_V → List sd_E → sd_A → Prop} {d : Nat} (hd : 1 ≤ d) (p1 : Int) (M : sd_M) (Rr : Int × sd_M) (h : f_X10_back p1 M = some Rr) : sd_B X d sd_q_X10_back 0 [(0, .inr (.inr (some (331)))), (1, .inl (p1))] [] M (some (.inl Rr.1), sd_rp Rr.2, 0, 0) := by
  unfold f_X10_back at h
  refine sd_b_go 4 (pc2 := 6) (lv2 := [(0, .inr (.inr (some (331)))), (1, .inl (p1))]) (st2 := [.inr (.inl (3)), .inr (.inl (0)), .inr (.inl (p1))]) rfl ?_
  obtain ⟨r1, e1, h⟩ := sd_bnd h
  refine sd_b_call [.inr (.inl (p1)), .inr (.inl (0)), .inr (.inl (3))] [] rfl rfl sd_i_X10_in rfl rfl (Nat.le_of_ble_eq_true rfl) rfl (m_X10_in (by omega) e1) ?_
  by_cases c2 : r1.1 = 0
  · rw [if_pos c2] at h
    refine sd_b_zt (c := .eq) (tgt := 21) rfl (decide_eq_true c2) (by decide) ?_
    refine sd_b_go 1 (pc2 := 22) (lv2 := [(0, .inr (.inr (some (331)))), (1, .inl (p1))]) (st2 := [.inl ((-1))]) rfl ?_
    cases h
    exact sd_b_rt rfl rfl rfl
  · rw [if_neg c2] at h
    refine sd_b_zf (c := .eq) rfl (decide_eq_false c2) (by decide) ?_
    refine sd_b_go 1 (pc2 := 13) (lv2 := [(0, .inr (.inr (some (331)))), (1, .inl (p1))]) (st2 := [.inr (.inr (some (331)))]) rfl ?_
    refine sd_b_gr (k := 42) sd_o_331 rfl rfl rfl ?_
    refine sd_b_go 1 (pc2 := 17) (lv2 := [(0, .inr (.inr (some (331)))), (1, .inl (p1))]) (st2 := [.inl (p1), .inr (.inr (some (356)))]) rfl ?_
    obtain ⟨g3, h⟩ := sd_if h
    refine sd_b_ab (sd_oa sd_o_331 (by decide) (off := 25) (List.mem_of_getElem? (i := 24) rfl)) (by decide) g3 rfl ?_
    by_cases c4 : ((r1.2) 356 p1.toNat) = 0
    · rw [if_pos c4] at h
      refine sd_b_zf (c := .ne) rfl (decide_eq_false (not_not_intro c4)) (by decide) ?_
      refine sd_b_go 1 (pc2 := 22) (lv2 := [(0, .inr (.inr (some (331)))), (1, .inl (p1))]) (st2 := [.inl ((-1))]) rfl ?_
      cases h
      exact sd_b_rt rfl rfl rfl
    · rw [if_neg c4] at h
      refine sd_b_zt (c := .ne) (tgt := 23) rfl (decide_eq_true c4) (by decide) ?_
      refine sd_b_go 2 (pc2 := 25) (lv2 := [(0, .inr (.inr (some (331)))), (1, .inl (p1))]) (st2 := [.inr (.inr (some (331))), .inr (.inr (some (331)))]) rfl ?_
      refine sd_b_gr (k := 40) sd_o_331 rfl rfl rfl ?_
      refine sd_b_go 1 (pc2 := 29) (lv2 := [(0, .inr (.inr (some (331)))), (1, .inl (p1))]) (st2 := [.inl (p1), .inr (.inr (some (354))), .inr (.inr (some (331)))]) rfl ?_
      obtain ⟨g5, h⟩ := sd_if h
      refine sd_b_ai (sd_oa sd_o_331 (by decide) (off := 23) (List.mem_of_getElem? (i := 22) rfl)) g5 rfl ?_
      refine sd_b_pi (k := 21) sd_o_331 rfl rfl rfl rfl rfl ?_
      refine sd_b_go 2 (pc2 := 35) (lv2 := [(0, .inr (.inr (some (331)))), (1, .inl (p1))]) (st2 := [.inr (.inr (some (331))), .inr (.inr (some (331)))]) rfl ?_
      refine sd_b_gr (k := 41) sd_o_331 rfl rfl rfl ?_
      refine sd_b_go 1 (pc2 := 39) (lv2 := [(0, .inr (.inr (some (331)))), (1, .inl (p1))]) (st2 := [.inl (p1), .inr (.inr (some (355))), .inr (.inr (some (331)))]) rfl ?_
      obtain ⟨g6, h⟩ := sd_if h
      refine sd_b_ai (sd_oa sd_o_331 (by decide) (off := 24) (List.mem_of_getElem? (i := 23) rfl)) g6 rfl ?_
      refine sd_b_pi (k := 22) sd_o_331 rfl rfl rfl rfl rfl ?_
      refine sd_b_go 2 (pc2 := 45) (lv2 := [(0, .inr (.inr (some (331)))), (1, .inl (p1))]) (st2 := [.inl (0), .inr (.inr (some (331)))]) rfl ?_
      refine sd_b_pi (k := 27) sd_o_331 rfl rfl rfl rfl rfl ?_
      refine sd_b_go 2 (pc2 := 50) (lv2 := [(2, .inl (0)), (0, .inr (.inr (some (331)))), (1, .inl (p1))]) (st2 := []) rfl ?_
      refine sd_b_wk [(0, .inr (.inr (some (331)))), (1, .inl (p1)), (2, .inl (0))] (List.forall_mem_cons.mpr ⟨rfl, (List.forall_mem_cons.mpr ⟨rfl, (List.forall_mem_cons.mpr ⟨rfl, (fun _ h0 => absurd h0 List.not_mem_nil)⟩)⟩)⟩) ?_
      exact t_X10_back_50 hd (f_X10_back_81) (t_X10_back_81 hd) 4000 p1 0 (sd_s (sd_s (sd_s r1.2 331 21 ((r1.2) 354 p1.toNat)) 331 22 ((sd_s r1.2 331 21 ((r1.2) 354 p1.toNat)) 355 p1.toNat)) 331 27 0) _ h
theorem m_X10_back {X : Nat → List sd_V → List sd_E → sd_A → Prop} {d : Nat} (hd : 2 ≤ d) {p1 : Int} {M : sd_M} {Rr : Int × sd_M} (h : f_X10_back p1 M = some Rr) : sd_Cal X d 248 [.inr (.inr (some (331))), .inl (p1)] (sd_rp M) (some (.inl Rr.1), sd_rp Rr.2, 0, 0) := by
  obtain ⟨d, rfl⟩ : ∃ d2, d = d2 + 1 := ⟨d - 1, by omega⟩
  exact sd_cal_of sd_i_X10_back (Nat.le_of_ble_eq_true rfl) (t_X10_back (by omega) p1 M Rr h)
-- J6_bitCount_0f7a4
def sd_q_J6_bitCount_0f7a4 : sd_MI := (yJ6_bitCount_0f7a4, cJ6_bitCount_0f7a4, 1, (some .int), 11, 1, sd_t_J6_bitCount_0f7a4)
set_option maxRecDepth 4000 in
theorem sd_i_J6_bitCount_0f7a4 : sd_mL[249]? = some sd_q_J6_bitCount_0f7a4 := rfl
def f_J6_bitCount_0f7a4 (p0 : Int) (M : sd_M) : Option (Int × sd_M) := some (sd_and (sd_w ((sd_w ((sd_and (sd_w ((sd_w ((sd_and (sd_w (p0 - (sd_and (sd_ush (p0) (1)) (1431655765)))) (858993459)) + (sd_and (sd_ush (sd_w (p0 - (sd_and (sd_ush (p0) (1)) (1431655765)))) (2)) (858993459)))) + (sd_ush (sd_w ((sd_and (sd_w (p0 - (sd_and (sd_ush (p0) (1)) (1431655765)))) (858993459)) + (sd_and (sd_ush (sd_w (p0 - (sd_and (sd_ush (p0) (1)) (1431655765)))) (2)) (858993459)))) (4)))) (252645135)) + (sd_ush (sd_and (sd_w ((sd_w ((sd_and (sd_w (p0 - (sd_and (sd_ush (p0) (1)) (1431655765)))) (858993459)) + (sd_and (sd_ush (sd_w (p0 - (sd_and (sd_ush (p0) (1)) (1431655765)))) (2)) (858993459)))) + (sd_ush (sd_w ((sd_and (sd_w (p0 - (sd_and (sd_ush (p0) (1)) (1431655765)))) (858993459)) + (sd_and (sd_ush (sd_w (p0 - (sd_and (sd_ush (p0) (1)) (1431655765)))) (2)) (858993459)))) (4)))) (252645135)) (8)))) + (sd_ush (sd_w ((sd_and (sd_w ((sd_w ((sd_and (sd_w (p0 - (sd_and (sd_ush (p0) (1)) (1431655765)))) (858993459)) + (sd_and (sd_ush (sd_w (p0 - (sd_and (sd_ush (p0) (1)) (1431655765)))) (2)) (858993459)))) + (sd_ush (sd_w ((sd_and (sd_w (p0 - (sd_and (sd_ush (p0) (1)) (1431655765)))) (858993459)) + (sd_and (sd_ush (sd_w (p0 - (sd_and (sd_ush (p0) (1)) (1431655765)))) (2)) (858993459)))) (4)))) (252645135)) + (sd_ush (sd_and (sd_w ((sd_w ((sd_and (sd_w (p0 - (sd_and (sd_ush (p0) (1)) (1431655765)))) (858993459)) + (sd_and (sd_ush (sd_w (p0 - (sd_and (sd_ush (p0) (1)) (1431655765)))) (2)) (858993459)))) + (sd_ush (sd_w ((sd_and (sd_w (p0 - (sd_and (sd_ush (p0) (1)) (1431655765)))) (858993459)) + (sd_and (sd_ush (sd_w (p0 - (sd_and (sd_ush (p0) (1)) (1431655765)))) (2)) (858993459)))) (4)))) (252645135)) (8)))) (16)))) (63), M)
set_option maxRecDepth 4000 in
theorem t_J6_bitCount_0f7a4 {X : Nat → List sd_V → List sd_E → sd_A → Prop} {d : Nat} (hd : 0 ≤ d) (p0 : Int) (M : sd_M) (Rr : Int × sd_M) (h : f_J6_bitCount_0f7a4 p0 M = some Rr) : sd_B X d sd_q_J6_bitCount_0f7a4 0 [(0, .inl (p0))] [] M (some (.inl Rr.1), sd_rp Rr.2, 0, 0) := by
  unfold f_J6_bitCount_0f7a4 at h
  refine sd_b_go 41 (pc2 := 52) (lv2 := [(0, .inl (sd_w ((sd_w ((sd_and (sd_w ((sd_w ((sd_and (sd_w (p0 - (sd_and (sd_ush (p0) (1)) (1431655765)))) (858993459)) + (sd_and (sd_ush (sd_w (p0 - (sd_and (sd_ush (p0) (1)) (1431655765)))) (2)) (858993459)))) + (sd_ush (sd_w ((sd_and (sd_w (p0 - (sd_and (sd_ush (p0) (1)) (1431655765)))) (858993459)) + (sd_and (sd_ush (sd_w (p0 - (sd_and (sd_ush (p0) (1)) (1431655765)))) (2)) (858993459)))) (4)))) (252645135)) + (sd_ush (sd_and (sd_w ((sd_w ((sd_and (sd_w (p0 - (sd_and (sd_ush (p0) (1)) (1431655765)))) (858993459)) + (sd_and (sd_ush (sd_w (p0 - (sd_and (sd_ush (p0) (1)) (1431655765)))) (2)) (858993459)))) + (sd_ush (sd_w ((sd_and (sd_w (p0 - (sd_and (sd_ush (p0) (1)) (1431655765)))) (858993459)) + (sd_and (sd_ush (sd_w (p0 - (sd_and (sd_ush (p0) (1)) (1431655765)))) (2)) (858993459)))) (4)))) (252645135)) (8)))) + (sd_ush (sd_w ((sd_and (sd_w ((sd_w ((sd_and (sd_w (p0 - (sd_and (sd_ush (p0) (1)) (1431655765)))) (858993459)) + (sd_and (sd_ush (sd_w (p0 - (sd_and (sd_ush (p0) (1)) (1431655765)))) (2)) (858993459)))) + (sd_ush (sd_w ((sd_and (sd_w (p0 - (sd_and (sd_ush (p0) (1)) (1431655765)))) (858993459)) + (sd_and (sd_ush (sd_w (p0 - (sd_and (sd_ush (p0) (1)) (1431655765)))) (2)) (858993459)))) (4)))) (252645135)) + (sd_ush (sd_and (sd_w ((sd_w ((sd_and (sd_w (p0 - (sd_and (sd_ush (p0) (1)) (1431655765)))) (858993459)) + (sd_and (sd_ush (sd_w (p0 - (sd_and (sd_ush (p0) (1)) (1431655765)))) (2)) (858993459)))) + (sd_ush (sd_w ((sd_and (sd_w (p0 - (sd_and (sd_ush (p0) (1)) (1431655765)))) (858993459)) + (sd_and (sd_ush (sd_w (p0 - (sd_and (sd_ush (p0) (1)) (1431655765)))) (2)) (858993459)))) (4)))) (252645135)) (8)))) (16)))))]) (st2 := [.inl (sd_and (sd_w ((sd_w ((sd_and (sd_w ((sd_w ((sd_and (sd_w (p0 - (sd_and (sd_ush (p0) (1)) (1431655765)))) (858993459)) + (sd_and (sd_ush (sd_w (p0 - (sd_and (sd_ush (p0) (1)) (1431655765)))) (2)) (858993459)))) + (sd_ush (sd_w ((sd_and (sd_w (p0 - (sd_and (sd_ush (p0) (1)) (1431655765)))) (858993459)) + (sd_and (sd_ush (sd_w (p0 - (sd_and (sd_ush (p0) (1)) (1431655765)))) (2)) (858993459)))) (4)))) (252645135)) + (sd_ush (sd_and (sd_w ((sd_w ((sd_and (sd_w (p0 - (sd_and (sd_ush (p0) (1)) (1431655765)))) (858993459)) + (sd_and (sd_ush (sd_w (p0 - (sd_and (sd_ush (p0) (1)) (1431655765)))) (2)) (858993459)))) + (sd_ush (sd_w ((sd_and (sd_w (p0 - (sd_and (sd_ush (p0) (1)) (1431655765)))) (858993459)) + (sd_and (sd_ush (sd_w (p0 - (sd_and (sd_ush (p0) (1)) (1431655765)))) (2)) (858993459)))) (4)))) (252645135)) (8)))) + (sd_ush (sd_w ((sd_and (sd_w ((sd_w ((sd_and (sd_w (p0 - (sd_and (sd_ush (p0) (1)) (1431655765)))) (858993459)) + (sd_and (sd_ush (sd_w (p0 - (sd_and (sd_ush (p0) (1)) (1431655765)))) (2)) (858993459)))) + (sd_ush (sd_w ((sd_and (sd_w (p0 - (sd_and (sd_ush (p0) (1)) (1431655765)))) (858993459)) + (sd_and (sd_ush (sd_w (p0 - (sd_and (sd_ush (p0) (1)) (1431655765)))) (2)) (858993459)))) (4)))) (252645135)) + (sd_ush (sd_and (sd_w ((sd_w ((sd_and (sd_w (p0 - (sd_and (sd_ush (p0) (1)) (1431655765)))) (858993459)) + (sd_and (sd_ush (sd_w (p0 - (sd_and (sd_ush (p0) (1)) (1431655765)))) (2)) (858993459)))) + (sd_ush (sd_w ((sd_and (sd_w (p0 - (sd_and (sd_ush (p0) (1)) (1431655765)))) (858993459)) + (sd_and (sd_ush (sd_w (p0 - (sd_and (sd_ush (p0) (1)) (1431655765)))) (2)) (858993459)))) (4)))) (252645135)) (8)))) (16)))) (63))]) rfl ?_
  cases h
  exact sd_b_rt rfl rfl rfl
theorem m_J6_bitCount_0f7a4 {X : Nat → List sd_V → List sd_E → sd_A → Prop} {d : Nat} (hd : 1 ≤ d) {p0 : Int} {M : sd_M} {Rr : Int × sd_M} (h : f_J6_bitCount_0f7a4 p0 M = some Rr) : sd_Cal X d 249 [.inl (p0)] (sd_rp M) (some (.inl Rr.1), sd_rp Rr.2, 0, 0) := by
  obtain ⟨d, rfl⟩ : ∃ d2, d = d2 + 1 := ⟨d - 1, by omega⟩
  exact sd_cal_of sd_i_J6_bitCount_0f7a4 (Nat.le_of_ble_eq_true rfl) (t_J6_bitCount_0f7a4 (by omega) p0 M Rr h)
-- X0_firstInNeed
def sd_q_X0_firstInNeed : sd_MI := (yX0_firstInNeed, cX0_firstInNeed, 4, (some .int), 0, 1, sd_t_X0_firstInNeed)
set_option maxRecDepth 4000 in
theorem sd_i_X0_firstInNeed : sd_mL[14]? = some sd_q_X0_firstInNeed := rfl
def f_X0_firstInNeed_45 (k4 : Int → Int → sd_M → Option (Int × sd_M)) (k51 : Int → sd_M → Option (Int × sd_M)) (this : Nat) (v2 : Int) (v3 : Int) (M : sd_M) : Option (Int × sd_M) := k4 v2 (sd_w (v3 + 1)) M
set_option maxRecDepth 4000 in
theorem t_X0_firstInNeed_45 {X : Nat → List sd_V → List sd_E → sd_A → Prop} {d : Nat} (hd : 2 ≤ d) (this : Nat) (h_this : sd_o this 0) (k4 : Int → Int → sd_M → Option (Int × sd_M)) (k51 : Int → sd_M → Option (Int × sd_M)) (hk4 : ∀ (v2 : Int) (v3 : Int) (M : sd_M) (Rr : Int × sd_M), k4 v2 v3 M = some Rr → sd_B X d sd_q_X0_firstInNeed 4 [(0, .inr (.inr (some (this)))), (1, .inr (.inr (some (59)))), (2, .inl (v2)), (3, .inl (v3))] [] M (some (.inl Rr.1), sd_rp Rr.2, 0, 0)) (hk51 : ∀ (v2 : Int) (M : sd_M) (Rr : Int × sd_M), k51 v2 M = some Rr → sd_B X d sd_q_X0_firstInNeed 51 [(0, .inr (.inr (some (this)))), (2, .inl (v2))] [] M (some (.inl Rr.1), sd_rp Rr.2, 0, 0)) (v2 : Int) (v3 : Int) (M : sd_M) (Rr : Int × sd_M) (h : f_X0_firstInNeed_45 k4 k51 this v2 v3 M = some Rr) : sd_B X d sd_q_X0_firstInNeed 45 [(0, .inr (.inr (some (this)))), (1, .inr (.inr (some (59)))), (2, .inl (v2)), (3, .inl (v3))] [] M (some (.inl Rr.1), sd_rp Rr.2, 0, 0) := by
  unfold f_X0_firstInNeed_45 at h
  refine sd_b_go 2 (pc2 := 4) (lv2 := [(3, .inl (sd_w (v3 + 1))), (0, .inr (.inr (some (this)))), (1, .inr (.inr (some (59)))), (2, .inl (v2))]) (st2 := []) rfl ?_
  refine sd_b_wk [(0, .inr (.inr (some (this)))), (1, .inr (.inr (some (59)))), (2, .inl (v2)), (3, .inl (sd_w (v3 + 1)))] (List.forall_mem_cons.mpr ⟨rfl, (List.forall_mem_cons.mpr ⟨rfl, (List.forall_mem_cons.mpr ⟨rfl, (List.forall_mem_cons.mpr ⟨rfl, (fun _ h0 => absurd h0 List.not_mem_nil)⟩)⟩)⟩)⟩) ?_
  exact hk4 v2 (sd_w (v3 + 1)) M _ h
def f_X0_firstInNeed_4 (k51 : Int → sd_M → Option (Int × sd_M)) (this : Nat) : Nat → Int → Int → sd_M → Option (Int × sd_M)
  | 0, _, _, _ => none
  | n + 1, v2, v3, M => if (M 59 6) ≤ v3 then (k51 v2 M) else (if 0 ≤ v3 ∧ v3 < 12 then ((f_X0_isOn this (M 63 v3.toNat) M).bind fun r3 => if r3.1 = 0 then (f_X0_firstInNeed_45 (f_X0_firstInNeed_4 k51 this n) k51 this v2 v3 r3.2) else ((f_X0_holds this v3 r3.2).bind fun r5 => if r5.1 = 0 then (if 0 ≤ v3 ∧ v3 < 12 then (f_X0_firstInNeed_45 (f_X0_firstInNeed_4 k51 this n) k51 this (sd_or (v2) (sd_shl (1) ((r5.2) 63 v3.toNat))) v3 r5.2) else none) else (f_X0_firstInNeed_45 (f_X0_firstInNeed_4 k51 this n) k51 this v2 v3 r5.2))) else none)
set_option maxRecDepth 4000 in
theorem t_X0_firstInNeed_4 {X : Nat → List sd_V → List sd_E → sd_A → Prop} {d : Nat} (hd : 2 ≤ d) (this : Nat) (h_this : sd_o this 0) (k51 : Int → sd_M → Option (Int × sd_M)) (hk51 : ∀ (v2 : Int) (M : sd_M) (Rr : Int × sd_M), k51 v2 M = some Rr → sd_B X d sd_q_X0_firstInNeed 51 [(0, .inr (.inr (some (this)))), (2, .inl (v2))] [] M (some (.inl Rr.1), sd_rp Rr.2, 0, 0)) : ∀ (n : Nat) (v2 : Int) (v3 : Int) (M : sd_M) (Rr : Int × sd_M), f_X0_firstInNeed_4 k51 this n v2 v3 M = some Rr → sd_B X d sd_q_X0_firstInNeed 4 [(0, .inr (.inr (some (this)))), (1, .inr (.inr (some (59)))), (2, .inl (v2)), (3, .inl (v3))] [] M (some (.inl Rr.1), sd_rp Rr.2, 0, 0) := by
  intro n
  induction n with
  | zero => intro v2 v3 M Rr h; cases h
  | succ n ih =>
    intro v2 v3 M Rr h
    rw [f_X0_firstInNeed_4] at h
    refine sd_b_go 2 (pc2 := 6) (lv2 := [(0, .inr (.inr (some (this)))), (1, .inr (.inr (some (59)))), (2, .inl (v2)), (3, .inl (v3))]) (st2 := [.inr (.inr (some (59))), .inl (v3)]) rfl ?_
    refine sd_b_gi (k := 6) sd_o_59 rfl rfl rfl ?_
    by_cases c1 : (M 59 6) ≤ v3
    · rw [if_pos c1] at h
      refine sd_b_ct (c := .ge) (tgt := 51) rfl (decide_eq_true c1) (by decide) ?_
      refine sd_b_wk [(0, .inr (.inr (some (this)))), (2, .inl (v2))] (List.forall_mem_cons.mpr ⟨rfl, (List.forall_mem_cons.mpr ⟨rfl, (fun _ h0 => absurd h0 List.not_mem_nil)⟩)⟩) ?_
      exact hk51 v2 M _ h
    · rw [if_neg c1] at h
      refine sd_b_cf (c := .ge) rfl (decide_eq_false c1) (by decide) ?_
      refine sd_b_go 2 (pc2 := 14) (lv2 := [(0, .inr (.inr (some (this)))), (1, .inr (.inr (some (59)))), (2, .inl (v2)), (3, .inl (v3))]) (st2 := [.inr (.inr (some (59))), .inr (.inr (some (this)))]) rfl ?_
      refine sd_b_gr (k := 7) sd_o_59 rfl rfl rfl ?_
      refine sd_b_go 1 (pc2 := 18) (lv2 := [(0, .inr (.inr (some (this)))), (1, .inr (.inr (some (59)))), (2, .inl (v2)), (3, .inl (v3))]) (st2 := [.inl (v3), .inr (.inr (some (63))), .inr (.inr (some (this)))]) rfl ?_
      obtain ⟨g2, h⟩ := sd_if h
      refine sd_b_ai (sd_oa sd_o_59 (by decide) (off := 4) (List.mem_of_getElem? (i := 3) rfl)) g2 rfl ?_
      obtain ⟨r3, e3, h⟩ := sd_bnd h
      refine sd_b_call [.inr (.inr (some (this))), .inl (M 63 v3.toNat)] [] rfl rfl sd_i_X0_isOn rfl rfl (Nat.le_of_ble_eq_true rfl) (sd_rc_v h_this) (m_X0_isOn (by omega) h_this e3) ?_
      by_cases c4 : r3.1 = 0
      · rw [if_pos c4] at h
        refine sd_b_zt (c := .eq) (tgt := 45) rfl (decide_eq_true c4) (by decide) ?_
        refine sd_b_wk [(0, .inr (.inr (some (this)))), (1, .inr (.inr (some (59)))), (2, .inl (v2)), (3, .inl (v3))] (List.forall_mem_cons.mpr ⟨rfl, (List.forall_mem_cons.mpr ⟨rfl, (List.forall_mem_cons.mpr ⟨rfl, (List.forall_mem_cons.mpr ⟨rfl, (fun _ h0 => absurd h0 List.not_mem_nil)⟩)⟩)⟩)⟩) ?_
        exact t_X0_firstInNeed_45 hd this h_this (f_X0_firstInNeed_4 k51 this n) k51 ih hk51 v2 v3 r3.2 _ h
      · rw [if_neg c4] at h
        refine sd_b_zf (c := .eq) rfl (decide_eq_false c4) (by decide) ?_
        refine sd_b_go 3 (pc2 := 28) (lv2 := [(0, .inr (.inr (some (this)))), (1, .inr (.inr (some (59)))), (2, .inl (v2)), (3, .inl (v3))]) (st2 := [.inl (v3), .inr (.inr (some (59))), .inr (.inr (some (this)))]) rfl ?_
        obtain ⟨r5, e5, h⟩ := sd_bnd h
        refine sd_b_call [.inr (.inr (some (this))), .inr (.inr (some (59))), .inl (v3)] [] rfl rfl sd_i_X0_holds rfl rfl (Nat.le_of_ble_eq_true rfl) (sd_rc_v h_this) (m_X0_holds (by omega) h_this e5) ?_
        by_cases c6 : r5.1 = 0
        · rw [if_pos c6] at h
          refine sd_b_zf (c := .ne) rfl (decide_eq_false (not_not_intro c6)) (by decide) ?_
          refine sd_b_go 3 (pc2 := 37) (lv2 := [(0, .inr (.inr (some (this)))), (1, .inr (.inr (some (59)))), (2, .inl (v2)), (3, .inl (v3))]) (st2 := [.inr (.inr (some (59))), .inl (1), .inl (v2)]) rfl ?_
          refine sd_b_gr (k := 7) sd_o_59 rfl rfl rfl ?_
          refine sd_b_go 1 (pc2 := 41) (lv2 := [(0, .inr (.inr (some (this)))), (1, .inr (.inr (some (59)))), (2, .inl (v2)), (3, .inl (v3))]) (st2 := [.inl (v3), .inr (.inr (some (63))), .inl (1), .inl (v2)]) rfl ?_
          obtain ⟨g7, h⟩ := sd_if h
          refine sd_b_ai (sd_oa sd_o_59 (by decide) (off := 4) (List.mem_of_getElem? (i := 3) rfl)) g7 rfl ?_
          refine sd_b_go 3 (pc2 := 45) (lv2 := [(2, .inl (sd_or (v2) (sd_shl (1) ((r5.2) 63 v3.toNat)))), (0, .inr (.inr (some (this)))), (1, .inr (.inr (some (59)))), (3, .inl (v3))]) (st2 := []) rfl ?_
          refine sd_b_wk [(0, .inr (.inr (some (this)))), (1, .inr (.inr (some (59)))), (2, .inl (sd_or (v2) (sd_shl (1) ((r5.2) 63 v3.toNat)))), (3, .inl (v3))] (List.forall_mem_cons.mpr ⟨rfl, (List.forall_mem_cons.mpr ⟨rfl, (List.forall_mem_cons.mpr ⟨rfl, (List.forall_mem_cons.mpr ⟨rfl, (fun _ h0 => absurd h0 List.not_mem_nil)⟩)⟩)⟩)⟩) ?_
          exact t_X0_firstInNeed_45 hd this h_this (f_X0_firstInNeed_4 k51 this n) k51 ih hk51 (sd_or (v2) (sd_shl (1) ((r5.2) 63 v3.toNat))) v3 r5.2 _ h
        · rw [if_neg c6] at h
          refine sd_b_zt (c := .ne) (tgt := 45) rfl (decide_eq_true c6) (by decide) ?_
          refine sd_b_wk [(0, .inr (.inr (some (this)))), (1, .inr (.inr (some (59)))), (2, .inl (v2)), (3, .inl (v3))] (List.forall_mem_cons.mpr ⟨rfl, (List.forall_mem_cons.mpr ⟨rfl, (List.forall_mem_cons.mpr ⟨rfl, (List.forall_mem_cons.mpr ⟨rfl, (fun _ h0 => absurd h0 List.not_mem_nil)⟩)⟩)⟩)⟩) ?_
          exact t_X0_firstInNeed_45 hd this h_this (f_X0_firstInNeed_4 k51 this n) k51 ih hk51 v2 v3 r5.2 _ h
def f_X0_firstInNeed_53 (k75 : Int → sd_M → Option (Int × sd_M)) (this : Nat) : Nat → Int → Int → sd_M → Option (Int × sd_M)
  | 0, _, _, _ => none
  | n + 1, v2, v3, M => if (M this 3) ≤ v3 then (some ((-1), M)) else (if 0 ≤ v3 ∧ v3 < 9 then (if (sd_and (sd_shr (v2) (M (this + 6) v3.toNat)) (1)) = 1 then (k75 v3 M) else (f_X0_firstInNeed_53 k75 this n v2 (sd_w (v3 + 1)) M)) else none)
set_option maxRecDepth 4000 in
theorem t_X0_firstInNeed_53 {X : Nat → List sd_V → List sd_E → sd_A → Prop} {d : Nat} (hd : 2 ≤ d) (this : Nat) (h_this : sd_o this 0) (k75 : Int → sd_M → Option (Int × sd_M)) (hk75 : ∀ (v3 : Int) (M : sd_M) (Rr : Int × sd_M), k75 v3 M = some Rr → sd_B X d sd_q_X0_firstInNeed 75 [(0, .inr (.inr (some (this)))), (3, .inl (v3))] [] M (some (.inl Rr.1), sd_rp Rr.2, 0, 0)) : ∀ (n : Nat) (v2 : Int) (v3 : Int) (M : sd_M) (Rr : Int × sd_M), f_X0_firstInNeed_53 k75 this n v2 v3 M = some Rr → sd_B X d sd_q_X0_firstInNeed 53 [(0, .inr (.inr (some (this)))), (2, .inl (v2)), (3, .inl (v3))] [] M (some (.inl Rr.1), sd_rp Rr.2, 0, 0) := by
  intro n
  induction n with
  | zero => intro v2 v3 M Rr h; cases h
  | succ n ih =>
    intro v2 v3 M Rr h
    rw [f_X0_firstInNeed_53] at h
    refine sd_b_go 2 (pc2 := 55) (lv2 := [(0, .inr (.inr (some (this)))), (2, .inl (v2)), (3, .inl (v3))]) (st2 := [.inr (.inr (some (this))), .inl (v3)]) rfl ?_
    refine sd_b_gi (k := 3) h_this rfl rfl rfl ?_
    by_cases c1 : (M this 3) ≤ v3
    · rw [if_pos c1] at h
      refine sd_b_ct (c := .ge) (tgt := 88) rfl (decide_eq_true c1) (by decide) ?_
      refine sd_b_go 1 (pc2 := 89) (lv2 := [(0, .inr (.inr (some (this)))), (2, .inl (v2)), (3, .inl (v3))]) (st2 := [.inl ((-1))]) rfl ?_
      cases h
      exact sd_b_rt rfl rfl rfl
    · rw [if_neg c1] at h
      refine sd_b_cf (c := .ge) rfl (decide_eq_false c1) (by decide) ?_
      refine sd_b_go 2 (pc2 := 63) (lv2 := [(0, .inr (.inr (some (this)))), (2, .inl (v2)), (3, .inl (v3))]) (st2 := [.inr (.inr (some (this))), .inl (v2)]) rfl ?_
      refine sd_b_gr (k := 10) h_this rfl rfl rfl ?_
      refine sd_b_go 1 (pc2 := 67) (lv2 := [(0, .inr (.inr (some (this)))), (2, .inl (v2)), (3, .inl (v3))]) (st2 := [.inl (v3), .inr (.inr (some (this + 6))), .inl (v2)]) rfl ?_
      obtain ⟨g2, h⟩ := sd_if h
      refine sd_b_ai (sd_oa h_this (by decide) (off := 6) (List.mem_of_getElem? (i := 5) rfl)) g2 rfl ?_
      refine sd_b_go 4 (pc2 := 72) (lv2 := [(0, .inr (.inr (some (this)))), (2, .inl (v2)), (3, .inl (v3))]) (st2 := [.inl (1), .inl (sd_and (sd_shr (v2) (M (this + 6) v3.toNat)) (1))]) rfl ?_
      by_cases c3 : (sd_and (sd_shr (v2) (M (this + 6) v3.toNat)) (1)) = 1
      · rw [if_pos c3] at h
        refine sd_b_cf (c := .ne) rfl (decide_eq_false (not_not_intro c3)) (by decide) ?_
        refine sd_b_wk [(0, .inr (.inr (some (this)))), (3, .inl (v3))] (List.forall_mem_cons.mpr ⟨rfl, (List.forall_mem_cons.mpr ⟨rfl, (fun _ h0 => absurd h0 List.not_mem_nil)⟩)⟩) ?_
        exact hk75 v3 M _ h
      · rw [if_neg c3] at h
        refine sd_b_ct (c := .ne) (tgt := 82) rfl (decide_eq_true c3) (by decide) ?_
        refine sd_b_go 2 (pc2 := 53) (lv2 := [(3, .inl (sd_w (v3 + 1))), (0, .inr (.inr (some (this)))), (2, .inl (v2))]) (st2 := []) rfl ?_
        refine sd_b_wk [(0, .inr (.inr (some (this)))), (2, .inl (v2)), (3, .inl (sd_w (v3 + 1)))] (List.forall_mem_cons.mpr ⟨rfl, (List.forall_mem_cons.mpr ⟨rfl, (List.forall_mem_cons.mpr ⟨rfl, (fun _ h0 => absurd h0 List.not_mem_nil)⟩)⟩)⟩) ?_
        exact ih v2 (sd_w (v3 + 1)) M _ h
def f_X0_firstInNeed_75 (this : Nat) (v3 : Int) (M : sd_M) : Option (Int × sd_M) := if 0 ≤ v3 ∧ v3 < 9 then (some (M (this + 6) v3.toNat, M)) else none
set_option maxRecDepth 4000 in
theorem t_X0_firstInNeed_75 {X : Nat → List sd_V → List sd_E → sd_A → Prop} {d : Nat} (hd : 2 ≤ d) (this : Nat) (h_this : sd_o this 0) (v3 : Int) (M : sd_M) (Rr : Int × sd_M) (h : f_X0_firstInNeed_75 this v3 M = some Rr) : sd_B X d sd_q_X0_firstInNeed 75 [(0, .inr (.inr (some (this)))), (3, .inl (v3))] [] M (some (.inl Rr.1), sd_rp Rr.2, 0, 0) := by
  unfold f_X0_firstInNeed_75 at h
  refine sd_b_go 1 (pc2 := 76) (lv2 := [(0, .inr (.inr (some (this)))), (3, .inl (v3))]) (st2 := [.inr (.inr (some (this)))]) rfl ?_
  refine sd_b_gr (k := 10) h_this rfl rfl rfl ?_
  refine sd_b_go 1 (pc2 := 80) (lv2 := [(0, .inr (.inr (some (this)))), (3, .inl (v3))]) (st2 := [.inl (v3), .inr (.inr (some (this + 6)))]) rfl ?_
  obtain ⟨g1, h⟩ := sd_if h
  refine sd_b_ai (sd_oa h_this (by decide) (off := 6) (List.mem_of_getElem? (i := 5) rfl)) g1 rfl ?_
  cases h
  exact sd_b_rt rfl rfl rfl
def f_X0_firstInNeed_51 (this : Nat) (v2 : Int) (M : sd_M) : Option (Int × sd_M) := f_X0_firstInNeed_53 (f_X0_firstInNeed_75 this) this 4000 v2 0 M
set_option maxRecDepth 4000 in
theorem t_X0_firstInNeed_51 {X : Nat → List sd_V → List sd_E → sd_A → Prop} {d : Nat} (hd : 2 ≤ d) (this : Nat) (h_this : sd_o this 0) (v2 : Int) (M : sd_M) (Rr : Int × sd_M) (h : f_X0_firstInNeed_51 this v2 M = some Rr) : sd_B X d sd_q_X0_firstInNeed 51 [(0, .inr (.inr (some (this)))), (2, .inl (v2))] [] M (some (.inl Rr.1), sd_rp Rr.2, 0, 0) := by
  unfold f_X0_firstInNeed_51 at h
  refine sd_b_go 2 (pc2 := 53) (lv2 := [(3, .inl (0)), (0, .inr (.inr (some (this)))), (2, .inl (v2))]) (st2 := []) rfl ?_
  refine sd_b_wk [(0, .inr (.inr (some (this)))), (2, .inl (v2)), (3, .inl (0))] (List.forall_mem_cons.mpr ⟨rfl, (List.forall_mem_cons.mpr ⟨rfl, (List.forall_mem_cons.mpr ⟨rfl, (fun _ h0 => absurd h0 List.not_mem_nil)⟩)⟩)⟩) ?_
  exact t_X0_firstInNeed_53 hd this h_this (f_X0_firstInNeed_75 this) (t_X0_firstInNeed_75 hd this h_this) 4000 v2 0 M _ h
def f_X0_firstInNeed (this : Nat) (M : sd_M) : Option (Int × sd_M) := f_X0_firstInNeed_4 (f_X0_firstInNeed_51 this) this 4000 0 0 M
set_option maxRecDepth 4000 in
theorem t_X0_firstInNeed {X : Nat → List sd_V → List sd_E → sd_A → Prop} {d : Nat} (hd : 2 ≤ d) (this : Nat) (h_this : sd_o this 0) (M : sd_M) (Rr : Int × sd_M) (h : f_X0_firstInNeed this M = some Rr) : sd_B X d sd_q_X0_firstInNeed 0 [(0, .inr (.inr (some (this)))), (1, .inr (.inr (some (59))))] [] M (some (.inl Rr.1), sd_rp Rr.2, 0, 0) := by
  unfold f_X0_firstInNeed at h
  refine sd_b_go 4 (pc2 := 4) (lv2 := [(3, .inl (0)), (2, .inl (0)), (0, .inr (.inr (some (this)))), (1, .inr (.inr (some (59))))]) (st2 := []) rfl ?_
  refine sd_b_wk [(0, .inr (.inr (some (this)))), (1, .inr (.inr (some (59)))), (2, .inl (0)), (3, .inl (0))] (List.forall_mem_cons.mpr ⟨rfl, (List.forall_mem_cons.mpr ⟨rfl, (List.forall_mem_cons.mpr ⟨rfl, (List.forall_mem_cons.mpr ⟨rfl, (fun _ h0 => absurd h0 List.not_mem_nil)⟩)⟩)⟩)⟩) ?_
  exact t_X0_firstInNeed_4 hd this h_this (f_X0_firstInNeed_51 this) (t_X0_firstInNeed_51 hd this h_this) 4000 0 0 M _ h
theorem m_X0_firstInNeed {X : Nat → List sd_V → List sd_E → sd_A → Prop} {d : Nat} (hd : 3 ≤ d) {this : Nat} (h_this : sd_o this 0) {M : sd_M} {Rr : Int × sd_M} (h : f_X0_firstInNeed this M = some Rr) : sd_Cal X d 14 [.inr (.inr (some (this))), .inr (.inr (some (59)))] (sd_rp M) (some (.inl Rr.1), sd_rp Rr.2, 0, 0) := by
  obtain ⟨d, rfl⟩ : ∃ d2, d = d2 + 1 := ⟨d - 1, by omega⟩
  exact sd_cal_of sd_i_X0_firstInNeed (Nat.le_of_ble_eq_true rfl) (t_X0_firstInNeed (by omega) this h_this M Rr h)
-- X0_partAmong
def sd_q_X0_partAmong : sd_MI := (yX0_partAmong, cX0_partAmong, 10, none, 0, 4, sd_t_X0_partAmong)
set_option maxRecDepth 4000 in
theorem sd_i_X0_partAmong : sd_mL[18]? = some sd_q_X0_partAmong := rfl
def f_X0_partAmong_6 (k47 : Int → Int → Int → sd_M → Option (Int × sd_M)) (this : Nat) (arr0 : Nat) (arr1 : Nat) : Nat → Int → Int → Int → Int → sd_M → Option (Int × sd_M)
  | 0, _, _, _, _, _ => none
  | n + 1, v1, v2, v5, v6, M => if (M this 3) ≤ v6 then (k47 v1 v2 v5 M) else (if 0 ≤ v6 ∧ v6 < 9 then (if 0 ≤ v6 ∧ v6 < 9 then (if 0 ≤ (M (this + 6) v6.toNat) ∧ (M (this + 6) v6.toNat) < 9 then (f_X0_partAmong_6 k47 this arr0 arr1 n v1 v2 (sd_w (v5 + (sd_w ((sd_and (sd_shr (v1) (M (this + 6) v6.toNat)) (1)) * (M arr0 (M (this + 6) v6.toNat).toNat))))) (sd_w (v6 + 1)) M) else none) else none) else none)
set_option maxRecDepth 4000 in
theorem t_X0_partAmong_6 {X : Nat → List sd_V → List sd_E → sd_A → Prop} {d : Nat} (hd : 1 ≤ d) (this : Nat) (arr0 : Nat) (arr1 : Nat) (h_this : sd_o this 0) (h_arr0 : sd_a arr0 0 9) (h_arr1 : sd_a arr1 0 9) (k47 : Int → Int → Int → sd_M → Option (Int × sd_M)) (hk47 : ∀ (v1 : Int) (v2 : Int) (v5 : Int) (M : sd_M) (Rr : Int × sd_M), k47 v1 v2 v5 M = some Rr → sd_B X d sd_q_X0_partAmong 47 [(0, .inr (.inr (some (this)))), (1, .inl (v1)), (2, .inl (v2)), (3, .inr (.inr (some (arr0)))), (4, .inr (.inr (some (arr1)))), (5, .inl (v5))] [] M (none, sd_rp Rr.2, 0, 0)) : ∀ (n : Nat) (v1 : Int) (v2 : Int) (v5 : Int) (v6 : Int) (M : sd_M) (Rr : Int × sd_M), f_X0_partAmong_6 k47 this arr0 arr1 n v1 v2 v5 v6 M = some Rr → sd_B X d sd_q_X0_partAmong 6 [(0, .inr (.inr (some (this)))), (1, .inl (v1)), (2, .inl (v2)), (3, .inr (.inr (some (arr0)))), (4, .inr (.inr (some (arr1)))), (5, .inl (v5)), (6, .inl (v6))] [] M (none, sd_rp Rr.2, 0, 0) := by
  intro n
  induction n with
  | zero => intro v1 v2 v5 v6 M Rr h; cases h
  | succ n ih =>
    intro v1 v2 v5 v6 M Rr h
    rw [f_X0_partAmong_6] at h
    refine sd_b_go 2 (pc2 := 9) (lv2 := [(0, .inr (.inr (some (this)))), (1, .inl (v1)), (2, .inl (v2)), (3, .inr (.inr (some (arr0)))), (4, .inr (.inr (some (arr1)))), (5, .inl (v5)), (6, .inl (v6))]) (st2 := [.inr (.inr (some (this))), .inl (v6)]) rfl ?_
    refine sd_b_gi (k := 3) h_this rfl rfl rfl ?_
    by_cases c1 : (M this 3) ≤ v6
    · rw [if_pos c1] at h
      refine sd_b_ct (c := .ge) (tgt := 47) rfl (decide_eq_true c1) (by decide) ?_
      refine sd_b_wk [(0, .inr (.inr (some (this)))), (1, .inl (v1)), (2, .inl (v2)), (3, .inr (.inr (some (arr0)))), (4, .inr (.inr (some (arr1)))), (5, .inl (v5))] (List.forall_mem_cons.mpr ⟨rfl, (List.forall_mem_cons.mpr ⟨rfl, (List.forall_mem_cons.mpr ⟨rfl, (List.forall_mem_cons.mpr ⟨rfl, (List.forall_mem_cons.mpr ⟨rfl, (List.forall_mem_cons.mpr ⟨rfl, (fun _ h0 => absurd h0 List.not_mem_nil)⟩)⟩)⟩)⟩)⟩)⟩) ?_
      exact hk47 v1 v2 v5 M _ h
    · rw [if_neg c1] at h
      refine sd_b_cf (c := .ge) rfl (decide_eq_false c1) (by decide) ?_
      refine sd_b_go 3 (pc2 := 19) (lv2 := [(0, .inr (.inr (some (this)))), (1, .inl (v1)), (2, .inl (v2)), (3, .inr (.inr (some (arr0)))), (4, .inr (.inr (some (arr1)))), (5, .inl (v5)), (6, .inl (v6))]) (st2 := [.inr (.inr (some (this))), .inl (v1), .inl (v5)]) rfl ?_
      refine sd_b_gr (k := 10) h_this rfl rfl rfl ?_
      refine sd_b_go 1 (pc2 := 24) (lv2 := [(0, .inr (.inr (some (this)))), (1, .inl (v1)), (2, .inl (v2)), (3, .inr (.inr (some (arr0)))), (4, .inr (.inr (some (arr1)))), (5, .inl (v5)), (6, .inl (v6))]) (st2 := [.inl (v6), .inr (.inr (some (this + 6))), .inl (v1), .inl (v5)]) rfl ?_
      obtain ⟨g2, h⟩ := sd_if h
      refine sd_b_ai (sd_oa h_this (by decide) (off := 6) (List.mem_of_getElem? (i := 5) rfl)) g2 rfl ?_
      refine sd_b_go 5 (pc2 := 30) (lv2 := [(0, .inr (.inr (some (this)))), (1, .inl (v1)), (2, .inl (v2)), (3, .inr (.inr (some (arr0)))), (4, .inr (.inr (some (arr1)))), (5, .inl (v5)), (6, .inl (v6))]) (st2 := [.inr (.inr (some (this))), .inr (.inr (some (arr0))), .inl (sd_and (sd_shr (v1) (M (this + 6) v6.toNat)) (1)), .inl (v5)]) rfl ?_
      refine sd_b_gr (k := 10) h_this rfl rfl rfl ?_
      refine sd_b_go 1 (pc2 := 35) (lv2 := [(0, .inr (.inr (some (this)))), (1, .inl (v1)), (2, .inl (v2)), (3, .inr (.inr (some (arr0)))), (4, .inr (.inr (some (arr1)))), (5, .inl (v5)), (6, .inl (v6))]) (st2 := [.inl (v6), .inr (.inr (some (this + 6))), .inr (.inr (some (arr0))), .inl (sd_and (sd_shr (v1) (M (this + 6) v6.toNat)) (1)), .inl (v5)]) rfl ?_
      obtain ⟨g3, h⟩ := sd_if h
      refine sd_b_ai (sd_oa h_this (by decide) (off := 6) (List.mem_of_getElem? (i := 5) rfl)) g3 rfl ?_
      obtain ⟨g4, h⟩ := sd_if h
      refine sd_b_ai h_arr0 g4 rfl ?_
      refine sd_b_go 5 (pc2 := 6) (lv2 := [(6, .inl (sd_w (v6 + 1))), (5, .inl (sd_w (v5 + (sd_w ((sd_and (sd_shr (v1) (M (this + 6) v6.toNat)) (1)) * (M arr0 (M (this + 6) v6.toNat).toNat)))))), (0, .inr (.inr (some (this)))), (1, .inl (v1)), (2, .inl (v2)), (3, .inr (.inr (some (arr0)))), (4, .inr (.inr (some (arr1))))]) (st2 := []) rfl ?_
      refine sd_b_wk [(0, .inr (.inr (some (this)))), (1, .inl (v1)), (2, .inl (v2)), (3, .inr (.inr (some (arr0)))), (4, .inr (.inr (some (arr1)))), (5, .inl (sd_w (v5 + (sd_w ((sd_and (sd_shr (v1) (M (this + 6) v6.toNat)) (1)) * (M arr0 (M (this + 6) v6.toNat).toNat)))))), (6, .inl (sd_w (v6 + 1)))] (List.forall_mem_cons.mpr ⟨rfl, (List.forall_mem_cons.mpr ⟨rfl, (List.forall_mem_cons.mpr ⟨rfl, (List.forall_mem_cons.mpr ⟨rfl, (List.forall_mem_cons.mpr ⟨rfl, (List.forall_mem_cons.mpr ⟨rfl, (List.forall_mem_cons.mpr ⟨rfl, (fun _ h0 => absurd h0 List.not_mem_nil)⟩)⟩)⟩)⟩)⟩)⟩)⟩) ?_
      exact ih v1 v2 (sd_w (v5 + (sd_w ((sd_and (sd_shr (v1) (M (this + 6) v6.toNat)) (1)) * (M arr0 (M (this + 6) v6.toNat).toNat))))) (sd_w (v6 + 1)) M _ h
def f_X0_partAmong_111 (k59 : Int → Int → Int → Int → Int → sd_M → Option (Int × sd_M)) (k117 : Int → Int → Int → Int → sd_M → Option (Int × sd_M)) (this : Nat) (arr0 : Nat) (arr1 : Nat) (v1 : Int) (v2 : Int) (v5 : Int) (v6 : Int) (v7 : Int) (M : sd_M) : Option (Int × sd_M) := k59 v1 v2 v5 v6 (sd_w (v7 + 1)) M
set_option maxRecDepth 4000 in
theorem t_X0_partAmong_111 {X : Nat → List sd_V → List sd_E → sd_A → Prop} {d : Nat} (hd : 1 ≤ d) (this : Nat) (arr0 : Nat) (arr1 : Nat) (h_this : sd_o this 0) (h_arr0 : sd_a arr0 0 9) (h_arr1 : sd_a arr1 0 9) (k59 : Int → Int → Int → Int → Int → sd_M → Option (Int × sd_M)) (k117 : Int → Int → Int → Int → sd_M → Option (Int × sd_M)) (hk59 : ∀ (v1 : Int) (v2 : Int) (v5 : Int) (v6 : Int) (v7 : Int) (M : sd_M) (Rr : Int × sd_M), k59 v1 v2 v5 v6 v7 M = some Rr → sd_B X d sd_q_X0_partAmong 59 [(0, .inr (.inr (some (this)))), (1, .inl (v1)), (2, .inl (v2)), (3, .inr (.inr (some (arr0)))), (4, .inr (.inr (some (arr1)))), (5, .inl (v5)), (6, .inl (v6)), (7, .inl (v7))] [] M (none, sd_rp Rr.2, 0, 0)) (hk117 : ∀ (v1 : Int) (v2 : Int) (v5 : Int) (v6 : Int) (M : sd_M) (Rr : Int × sd_M), k117 v1 v2 v5 v6 M = some Rr → sd_B X d sd_q_X0_partAmong 117 [(0, .inr (.inr (some (this)))), (1, .inl (v1)), (2, .inl (v2)), (3, .inr (.inr (some (arr0)))), (4, .inr (.inr (some (arr1)))), (5, .inl (v5)), (6, .inl (v6))] [] M (none, sd_rp Rr.2, 0, 0)) (v1 : Int) (v2 : Int) (v5 : Int) (v6 : Int) (v7 : Int) (M : sd_M) (Rr : Int × sd_M) (h : f_X0_partAmong_111 k59 k117 this arr0 arr1 v1 v2 v5 v6 v7 M = some Rr) : sd_B X d sd_q_X0_partAmong 111 [(0, .inr (.inr (some (this)))), (1, .inl (v1)), (2, .inl (v2)), (3, .inr (.inr (some (arr0)))), (4, .inr (.inr (some (arr1)))), (5, .inl (v5)), (6, .inl (v6)), (7, .inl (v7))] [] M (none, sd_rp Rr.2, 0, 0) := by
  unfold f_X0_partAmong_111 at h
  refine sd_b_go 2 (pc2 := 59) (lv2 := [(7, .inl (sd_w (v7 + 1))), (0, .inr (.inr (some (this)))), (1, .inl (v1)), (2, .inl (v2)), (3, .inr (.inr (some (arr0)))), (4, .inr (.inr (some (arr1)))), (5, .inl (v5)), (6, .inl (v6))]) (st2 := []) rfl ?_
  refine sd_b_wk [(0, .inr (.inr (some (this)))), (1, .inl (v1)), (2, .inl (v2)), (3, .inr (.inr (some (arr0)))), (4, .inr (.inr (some (arr1)))), (5, .inl (v5)), (6, .inl (v6)), (7, .inl (sd_w (v7 + 1)))] (List.forall_mem_cons.mpr ⟨rfl, (List.forall_mem_cons.mpr ⟨rfl, (List.forall_mem_cons.mpr ⟨rfl, (List.forall_mem_cons.mpr ⟨rfl, (List.forall_mem_cons.mpr ⟨rfl, (List.forall_mem_cons.mpr ⟨rfl, (List.forall_mem_cons.mpr ⟨rfl, (List.forall_mem_cons.mpr ⟨rfl, (fun _ h0 => absurd h0 List.not_mem_nil)⟩)⟩)⟩)⟩)⟩)⟩)⟩)⟩) ?_
  exact hk59 v1 v2 v5 v6 (sd_w (v7 + 1)) M _ h
def f_X0_partAmong_59 (k117 : Int → Int → Int → Int → sd_M → Option (Int × sd_M)) (this : Nat) (arr0 : Nat) (arr1 : Nat) : Nat → Int → Int → Int → Int → Int → sd_M → Option (Int × sd_M)
  | 0, _, _, _, _, _, _ => none
  | n + 1, v1, v2, v5, v6, v7, M => if (M this 3) ≤ v7 then (k117 v1 v2 v5 v6 M) else (if 0 ≤ v7 ∧ v7 < 9 then (if (sd_and (sd_shr (v1) (M (this + 6) v7.toNat)) (1)) = 1 then (if 0 ≤ (M (this + 6) v7.toNat) ∧ (M (this + 6) v7.toNat) < 9 then (if v5 ≠ 0 then (if 0 ≤ (M (this + 6) v7.toNat) ∧ (M (this + 6) v7.toNat) < 9 then (if 0 ≤ (M (this + 6) v7.toNat) ∧ (M (this + 6) v7.toNat) < 9 then (f_X0_partAmong_111 (f_X0_partAmong_59 k117 this arr0 arr1 n) k117 this arr0 arr1 v1 v2 v5 (sd_w (v6 - ((sd_s M arr1 (M (this + 6) v7.toNat).toNat (sd_w (Int.tdiv (sd_w (v2 * (M arr0 (M (this + 6) v7.toNat).toNat))) v5))) arr1 (M (this + 6) v7.toNat).toNat))) v7 (sd_s M arr1 (M (this + 6) v7.toNat).toNat (sd_w (Int.tdiv (sd_w (v2 * (M arr0 (M (this + 6) v7.toNat).toNat))) v5)))) else none) else none) else none) else none) else (f_X0_partAmong_111 (f_X0_partAmong_59 k117 this arr0 arr1 n) k117 this arr0 arr1 v1 v2 v5 v6 v7 M)) else none)
set_option maxRecDepth 4000 in
theorem t_X0_partAmong_59 {X : Nat → List sd_V → List sd_E → sd_A → Prop} {d : Nat} (hd : 1 ≤ d) (this : Nat) (arr0 : Nat) (arr1 : Nat) (h_this : sd_o this 0) (h_arr0 : sd_a arr0 0 9) (h_arr1 : sd_a arr1 0 9) (k117 : Int → Int → Int → Int → sd_M → Option (Int × sd_M)) (hk117 : ∀ (v1 : Int) (v2 : Int) (v5 : Int) (v6 : Int) (M : sd_M) (Rr : Int × sd_M), k117 v1 v2 v5 v6 M = some Rr → sd_B X d sd_q_X0_partAmong 117 [(0, .inr (.inr (some (this)))), (1, .inl (v1)), (2, .inl (v2)), (3, .inr (.inr (some (arr0)))), (4, .inr (.inr (some (arr1)))), (5, .inl (v5)), (6, .inl (v6))] [] M (none, sd_rp Rr.2, 0, 0)) : ∀ (n : Nat) (v1 : Int) (v2 : Int) (v5 : Int) (v6 : Int) (v7 : Int) (M : sd_M) (Rr : Int × sd_M), f_X0_partAmong_59 k117 this arr0 arr1 n v1 v2 v5 v6 v7 M = some Rr → sd_B X d sd_q_X0_partAmong 59 [(0, .inr (.inr (some (this)))), (1, .inl (v1)), (2, .inl (v2)), (3, .inr (.inr (some (arr0)))), (4, .inr (.inr (some (arr1)))), (5, .inl (v5)), (6, .inl (v6)), (7, .inl (v7))] [] M (none, sd_rp Rr.2, 0, 0) := by
  intro n
  induction n with
  | zero => intro v1 v2 v5 v6 v7 M Rr h; cases h
  | succ n ih =>
    intro v1 v2 v5 v6 v7 M Rr h
    rw [f_X0_partAmong_59] at h
    refine sd_b_go 2 (pc2 := 62) (lv2 := [(0, .inr (.inr (some (this)))), (1, .inl (v1)), (2, .inl (v2)), (3, .inr (.inr (some (arr0)))), (4, .inr (.inr (some (arr1)))), (5, .inl (v5)), (6, .inl (v6)), (7, .inl (v7))]) (st2 := [.inr (.inr (some (this))), .inl (v7)]) rfl ?_
    refine sd_b_gi (k := 3) h_this rfl rfl rfl ?_
    by_cases c1 : (M this 3) ≤ v7
    · rw [if_pos c1] at h
      refine sd_b_ct (c := .ge) (tgt := 117) rfl (decide_eq_true c1) (by decide) ?_
      refine sd_b_wk [(0, .inr (.inr (some (this)))), (1, .inl (v1)), (2, .inl (v2)), (3, .inr (.inr (some (arr0)))), (4, .inr (.inr (some (arr1)))), (5, .inl (v5)), (6, .inl (v6))] (List.forall_mem_cons.mpr ⟨rfl, (List.forall_mem_cons.mpr ⟨rfl, (List.forall_mem_cons.mpr ⟨rfl, (List.forall_mem_cons.mpr ⟨rfl, (List.forall_mem_cons.mpr ⟨rfl, (List.forall_mem_cons.mpr ⟨rfl, (List.forall_mem_cons.mpr ⟨rfl, (fun _ h0 => absurd h0 List.not_mem_nil)⟩)⟩)⟩)⟩)⟩)⟩)⟩) ?_
      exact hk117 v1 v2 v5 v6 M _ h
    · rw [if_neg c1] at h
      refine sd_b_cf (c := .ge) rfl (decide_eq_false c1) (by decide) ?_
      refine sd_b_go 1 (pc2 := 69) (lv2 := [(0, .inr (.inr (some (this)))), (1, .inl (v1)), (2, .inl (v2)), (3, .inr (.inr (some (arr0)))), (4, .inr (.inr (some (arr1)))), (5, .inl (v5)), (6, .inl (v6)), (7, .inl (v7))]) (st2 := [.inr (.inr (some (this)))]) rfl ?_
      refine sd_b_gr (k := 10) h_this rfl rfl rfl ?_
      refine sd_b_go 1 (pc2 := 74) (lv2 := [(0, .inr (.inr (some (this)))), (1, .inl (v1)), (2, .inl (v2)), (3, .inr (.inr (some (arr0)))), (4, .inr (.inr (some (arr1)))), (5, .inl (v5)), (6, .inl (v6)), (7, .inl (v7))]) (st2 := [.inl (v7), .inr (.inr (some (this + 6)))]) rfl ?_
      obtain ⟨g2, h⟩ := sd_if h
      refine sd_b_ai (sd_oa h_this (by decide) (off := 6) (List.mem_of_getElem? (i := 5) rfl)) g2 rfl ?_
      refine sd_b_go 7 (pc2 := 84) (lv2 := [(8, .inl (M (this + 6) v7.toNat)), (0, .inr (.inr (some (this)))), (1, .inl (v1)), (2, .inl (v2)), (3, .inr (.inr (some (arr0)))), (4, .inr (.inr (some (arr1)))), (5, .inl (v5)), (6, .inl (v6)), (7, .inl (v7))]) (st2 := [.inl (1), .inl (sd_and (sd_shr (v1) (M (this + 6) v7.toNat)) (1))]) rfl ?_
      by_cases c3 : (sd_and (sd_shr (v1) (M (this + 6) v7.toNat)) (1)) = 1
      · rw [if_pos c3] at h
        refine sd_b_cf (c := .ne) rfl (decide_eq_false (not_not_intro c3)) (by decide) ?_
        refine sd_b_go 5 (pc2 := 95) (lv2 := [(8, .inl (M (this + 6) v7.toNat)), (0, .inr (.inr (some (this)))), (1, .inl (v1)), (2, .inl (v2)), (3, .inr (.inr (some (arr0)))), (4, .inr (.inr (some (arr1)))), (5, .inl (v5)), (6, .inl (v6)), (7, .inl (v7))]) (st2 := [.inl (M (this + 6) v7.toNat), .inr (.inr (some (arr0))), .inl (v2), .inl (M (this + 6) v7.toNat), .inr (.inr (some (arr1)))]) rfl ?_
        obtain ⟨g4, h⟩ := sd_if h
        refine sd_b_ai h_arr0 g4 rfl ?_
        refine sd_b_go 2 (pc2 := 99) (lv2 := [(8, .inl (M (this + 6) v7.toNat)), (0, .inr (.inr (some (this)))), (1, .inl (v1)), (2, .inl (v2)), (3, .inr (.inr (some (arr0)))), (4, .inr (.inr (some (arr1)))), (5, .inl (v5)), (6, .inl (v6)), (7, .inl (v7))]) (st2 := [.inl (v5), .inl (sd_w (v2 * (M arr0 (M (this + 6) v7.toNat).toNat))), .inl (M (this + 6) v7.toNat), .inr (.inr (some (arr1)))]) rfl ?_
        obtain ⟨g5, h⟩ := sd_if h
        refine sd_b_dz g5 rfl rfl ?_
        obtain ⟨g6, h⟩ := sd_if h
        refine sd_b_si h_arr1 g6 rfl ?_
        refine sd_b_go 3 (pc2 := 107) (lv2 := [(8, .inl (M (this + 6) v7.toNat)), (0, .inr (.inr (some (this)))), (1, .inl (v1)), (2, .inl (v2)), (3, .inr (.inr (some (arr0)))), (4, .inr (.inr (some (arr1)))), (5, .inl (v5)), (6, .inl (v6)), (7, .inl (v7))]) (st2 := [.inl (M (this + 6) v7.toNat), .inr (.inr (some (arr1))), .inl (v6)]) rfl ?_
        obtain ⟨g7, h⟩ := sd_if h
        refine sd_b_ai h_arr1 g7 rfl ?_
        refine sd_b_go 2 (pc2 := 111) (lv2 := [(6, .inl (sd_w (v6 - ((sd_s M arr1 (M (this + 6) v7.toNat).toNat (sd_w (Int.tdiv (sd_w (v2 * (M arr0 (M (this + 6) v7.toNat).toNat))) v5))) arr1 (M (this + 6) v7.toNat).toNat)))), (8, .inl (M (this + 6) v7.toNat)), (0, .inr (.inr (some (this)))), (1, .inl (v1)), (2, .inl (v2)), (3, .inr (.inr (some (arr0)))), (4, .inr (.inr (some (arr1)))), (5, .inl (v5)), (7, .inl (v7))]) (st2 := []) rfl ?_
        refine sd_b_wk [(0, .inr (.inr (some (this)))), (1, .inl (v1)), (2, .inl (v2)), (3, .inr (.inr (some (arr0)))), (4, .inr (.inr (some (arr1)))), (5, .inl (v5)), (6, .inl (sd_w (v6 - ((sd_s M arr1 (M (this + 6) v7.toNat).toNat (sd_w (Int.tdiv (sd_w (v2 * (M arr0 (M (this + 6) v7.toNat).toNat))) v5))) arr1 (M (this + 6) v7.toNat).toNat)))), (7, .inl (v7))] (List.forall_mem_cons.mpr ⟨rfl, (List.forall_mem_cons.mpr ⟨rfl, (List.forall_mem_cons.mpr ⟨rfl, (List.forall_mem_cons.mpr ⟨rfl, (List.forall_mem_cons.mpr ⟨rfl, (List.forall_mem_cons.mpr ⟨rfl, (List.forall_mem_cons.mpr ⟨rfl, (List.forall_mem_cons.mpr ⟨rfl, (fun _ h0 => absurd h0 List.not_mem_nil)⟩)⟩)⟩)⟩)⟩)⟩)⟩)⟩) ?_
        exact t_X0_partAmong_111 hd this arr0 arr1 h_this h_arr0 h_arr1 (f_X0_partAmong_59 k117 this arr0 arr1 n) k117 ih hk117 v1 v2 v5 (sd_w (v6 - ((sd_s M arr1 (M (this + 6) v7.toNat).toNat (sd_w (Int.tdiv (sd_w (v2 * (M arr0 (M (this + 6) v7.toNat).toNat))) v5))) arr1 (M (this + 6) v7.toNat).toNat))) v7 (sd_s M arr1 (M (this + 6) v7.toNat).toNat (sd_w (Int.tdiv (sd_w (v2 * (M arr0 (M (this + 6) v7.toNat).toNat))) v5))) _ h
      · rw [if_neg c3] at h
        refine sd_b_ct (c := .ne) (tgt := 111) rfl (decide_eq_true c3) (by decide) ?_
        refine sd_b_wk [(0, .inr (.inr (some (this)))), (1, .inl (v1)), (2, .inl (v2)), (3, .inr (.inr (some (arr0)))), (4, .inr (.inr (some (arr1)))), (5, .inl (v5)), (6, .inl (v6)), (7, .inl (v7))] (List.forall_mem_cons.mpr ⟨rfl, (List.forall_mem_cons.mpr ⟨rfl, (List.forall_mem_cons.mpr ⟨rfl, (List.forall_mem_cons.mpr ⟨rfl, (List.forall_mem_cons.mpr ⟨rfl, (List.forall_mem_cons.mpr ⟨rfl, (List.forall_mem_cons.mpr ⟨rfl, (List.forall_mem_cons.mpr ⟨rfl, (fun _ h0 => absurd h0 List.not_mem_nil)⟩)⟩)⟩)⟩)⟩)⟩)⟩)⟩) ?_
        exact t_X0_partAmong_111 hd this arr0 arr1 h_this h_arr0 h_arr1 (f_X0_partAmong_59 k117 this arr0 arr1 n) k117 ih hk117 v1 v2 v5 v6 v7 M _ h
def f_X0_partAmong_123 (this : Nat) (arr0 : Nat) (arr1 : Nat) : Nat → Int → Int → Int → Int → Int → sd_M → Option (Int × sd_M)
  | 0, _, _, _, _, _, _ => none
  | n + 1, v2, v5, v6, v7, v8, M => if v6 ≤ v8 then (some (0, M)) else (if 9 ≤ v8 then (some (0, M)) else ((f_X0_lostMost this arr0 v7 v2 v5 M).bind fun r3 => if r3.1 = ((-1)) then (some (0, r3.2)) else (if 0 ≤ r3.1 ∧ r3.1 < 9 then (if 0 ≤ r3.1 ∧ r3.1 < 9 then (f_X0_partAmong_123 this arr0 arr1 n v2 v5 v6 (sd_and (v7) (sd_xor (sd_shl (1) (r3.1)) ((-1)))) (sd_w (v8 + 1)) (sd_s r3.2 arr1 r3.1.toNat (sd_w (((r3.2) arr1 r3.1.toNat) + 1)))) else none) else none)))
set_option maxRecDepth 4000 in
theorem t_X0_partAmong_123 {X : Nat → List sd_V → List sd_E → sd_A → Prop} {d : Nat} (hd : 1 ≤ d) (this : Nat) (arr0 : Nat) (arr1 : Nat) (h_this : sd_o this 0) (h_arr0 : sd_a arr0 0 9) (h_arr1 : sd_a arr1 0 9) : ∀ (n : Nat) (v2 : Int) (v5 : Int) (v6 : Int) (v7 : Int) (v8 : Int) (M : sd_M) (Rr : Int × sd_M), f_X0_partAmong_123 this arr0 arr1 n v2 v5 v6 v7 v8 M = some Rr → sd_B X d sd_q_X0_partAmong 123 [(0, .inr (.inr (some (this)))), (2, .inl (v2)), (3, .inr (.inr (some (arr0)))), (4, .inr (.inr (some (arr1)))), (5, .inl (v5)), (6, .inl (v6)), (7, .inl (v7)), (8, .inl (v8))] [] M (none, sd_rp Rr.2, 0, 0) := by
  intro n
  induction n with
  | zero => intro v2 v5 v6 v7 v8 M Rr h; cases h
  | succ n ih =>
    intro v2 v5 v6 v7 v8 M Rr h
    rw [f_X0_partAmong_123] at h
    refine sd_b_go 2 (pc2 := 127) (lv2 := [(0, .inr (.inr (some (this)))), (2, .inl (v2)), (3, .inr (.inr (some (arr0)))), (4, .inr (.inr (some (arr1)))), (5, .inl (v5)), (6, .inl (v6)), (7, .inl (v7)), (8, .inl (v8))]) (st2 := [.inl (v6), .inl (v8)]) rfl ?_
    by_cases c1 : v6 ≤ v8
    · rw [if_pos c1] at h
      refine sd_b_ct (c := .ge) (tgt := 182) rfl (decide_eq_true c1) (by decide) ?_
      cases h
      exact sd_b_rt rfl rfl rfl
    · rw [if_neg c1] at h
      refine sd_b_cf (c := .ge) rfl (decide_eq_false c1) (by decide) ?_
      refine sd_b_go 2 (pc2 := 134) (lv2 := [(0, .inr (.inr (some (this)))), (2, .inl (v2)), (3, .inr (.inr (some (arr0)))), (4, .inr (.inr (some (arr1)))), (5, .inl (v5)), (6, .inl (v6)), (7, .inl (v7)), (8, .inl (v8))]) (st2 := [.inl (9), .inl (v8)]) rfl ?_
      by_cases c2 : 9 ≤ v8
      · rw [if_pos c2] at h
        refine sd_b_ct (c := .ge) (tgt := 182) rfl (decide_eq_true c2) (by decide) ?_
        cases h
        exact sd_b_rt rfl rfl rfl
      · rw [if_neg c2] at h
        refine sd_b_cf (c := .ge) rfl (decide_eq_false c2) (by decide) ?_
        refine sd_b_go 5 (pc2 := 144) (lv2 := [(0, .inr (.inr (some (this)))), (2, .inl (v2)), (3, .inr (.inr (some (arr0)))), (4, .inr (.inr (some (arr1)))), (5, .inl (v5)), (6, .inl (v6)), (7, .inl (v7)), (8, .inl (v8))]) (st2 := [.inl (v5), .inr (.inr (some (arr0))), .inl (v2), .inl (v7), .inr (.inr (some (this)))]) rfl ?_
        obtain ⟨r3, e3, h⟩ := sd_bnd h
        refine sd_b_call [.inr (.inr (some (this))), .inl (v7), .inl (v2), .inr (.inr (some (arr0))), .inl (v5)] [] rfl rfl sd_i_X0_lostMost rfl rfl (Nat.le_of_ble_eq_true rfl) (sd_rc_v h_this) (m_X0_lostMost (by omega) h_this h_arr0 e3) ?_
        refine sd_b_go 3 (pc2 := 152) (lv2 := [(9, .inl (r3.1)), (0, .inr (.inr (some (this)))), (2, .inl (v2)), (3, .inr (.inr (some (arr0)))), (4, .inr (.inr (some (arr1)))), (5, .inl (v5)), (6, .inl (v6)), (7, .inl (v7)), (8, .inl (v8))]) (st2 := [.inl ((-1)), .inl (r3.1)]) rfl ?_
        by_cases c4 : r3.1 = ((-1))
        · rw [if_pos c4] at h
          refine sd_b_cf (c := .ne) rfl (decide_eq_false (not_not_intro c4)) (by decide) ?_
          cases h
          exact sd_b_rt rfl rfl rfl
        · rw [if_neg c4] at h
          refine sd_b_ct (c := .ne) (tgt := 156) rfl (decide_eq_true c4) (by decide) ?_
          refine sd_b_go 3 (pc2 := 161) (lv2 := [(9, .inl (r3.1)), (0, .inr (.inr (some (this)))), (2, .inl (v2)), (3, .inr (.inr (some (arr0)))), (4, .inr (.inr (some (arr1)))), (5, .inl (v5)), (6, .inl (v6)), (7, .inl (v7)), (8, .inl (v8))]) (st2 := [.inl (r3.1), .inr (.inr (some (arr1))), .inl (r3.1), .inr (.inr (some (arr1)))]) rfl ?_
          obtain ⟨g5, h⟩ := sd_if h
          refine sd_b_ai h_arr1 g5 rfl ?_
          refine sd_b_go 2 (pc2 := 164) (lv2 := [(9, .inl (r3.1)), (0, .inr (.inr (some (this)))), (2, .inl (v2)), (3, .inr (.inr (some (arr0)))), (4, .inr (.inr (some (arr1)))), (5, .inl (v5)), (6, .inl (v6)), (7, .inl (v7)), (8, .inl (v8))]) (st2 := [.inl (sd_w (((r3.2) arr1 r3.1.toNat) + 1)), .inl (r3.1), .inr (.inr (some (arr1)))]) rfl ?_
          obtain ⟨g6, h⟩ := sd_if h
          refine sd_b_si h_arr1 g6 rfl ?_
          refine sd_b_go 10 (pc2 := 123) (lv2 := [(8, .inl (sd_w (v8 + 1))), (7, .inl (sd_and (v7) (sd_xor (sd_shl (1) (r3.1)) ((-1))))), (9, .inl (r3.1)), (0, .inr (.inr (some (this)))), (2, .inl (v2)), (3, .inr (.inr (some (arr0)))), (4, .inr (.inr (some (arr1)))), (5, .inl (v5)), (6, .inl (v6))]) (st2 := []) rfl ?_
          refine sd_b_wk [(0, .inr (.inr (some (this)))), (2, .inl (v2)), (3, .inr (.inr (some (arr0)))), (4, .inr (.inr (some (arr1)))), (5, .inl (v5)), (6, .inl (v6)), (7, .inl (sd_and (v7) (sd_xor (sd_shl (1) (r3.1)) ((-1))))), (8, .inl (sd_w (v8 + 1)))] (List.forall_mem_cons.mpr ⟨rfl, (List.forall_mem_cons.mpr ⟨rfl, (List.forall_mem_cons.mpr ⟨rfl, (List.forall_mem_cons.mpr ⟨rfl, (List.forall_mem_cons.mpr ⟨rfl, (List.forall_mem_cons.mpr ⟨rfl, (List.forall_mem_cons.mpr ⟨rfl, (List.forall_mem_cons.mpr ⟨rfl, (fun _ h0 => absurd h0 List.not_mem_nil)⟩)⟩)⟩)⟩)⟩)⟩)⟩)⟩) ?_
          exact ih v2 v5 v6 (sd_and (v7) (sd_xor (sd_shl (1) (r3.1)) ((-1)))) (sd_w (v8 + 1)) (sd_s r3.2 arr1 r3.1.toNat (sd_w (((r3.2) arr1 r3.1.toNat) + 1))) _ h
def f_X0_partAmong_117 (this : Nat) (arr0 : Nat) (arr1 : Nat) (v1 : Int) (v2 : Int) (v5 : Int) (v6 : Int) (M : sd_M) : Option (Int × sd_M) := f_X0_partAmong_123 this arr0 arr1 4000 v2 v5 v6 v1 0 M
set_option maxRecDepth 4000 in
theorem t_X0_partAmong_117 {X : Nat → List sd_V → List sd_E → sd_A → Prop} {d : Nat} (hd : 1 ≤ d) (this : Nat) (arr0 : Nat) (arr1 : Nat) (h_this : sd_o this 0) (h_arr0 : sd_a arr0 0 9) (h_arr1 : sd_a arr1 0 9) (v1 : Int) (v2 : Int) (v5 : Int) (v6 : Int) (M : sd_M) (Rr : Int × sd_M) (h : f_X0_partAmong_117 this arr0 arr1 v1 v2 v5 v6 M = some Rr) : sd_B X d sd_q_X0_partAmong 117 [(0, .inr (.inr (some (this)))), (1, .inl (v1)), (2, .inl (v2)), (3, .inr (.inr (some (arr0)))), (4, .inr (.inr (some (arr1)))), (5, .inl (v5)), (6, .inl (v6))] [] M (none, sd_rp Rr.2, 0, 0) := by
  unfold f_X0_partAmong_117 at h
  refine sd_b_go 4 (pc2 := 123) (lv2 := [(8, .inl (0)), (7, .inl (v1)), (0, .inr (.inr (some (this)))), (1, .inl (v1)), (2, .inl (v2)), (3, .inr (.inr (some (arr0)))), (4, .inr (.inr (some (arr1)))), (5, .inl (v5)), (6, .inl (v6))]) (st2 := []) rfl ?_
  refine sd_b_wk [(0, .inr (.inr (some (this)))), (2, .inl (v2)), (3, .inr (.inr (some (arr0)))), (4, .inr (.inr (some (arr1)))), (5, .inl (v5)), (6, .inl (v6)), (7, .inl (v1)), (8, .inl (0))] (List.forall_mem_cons.mpr ⟨rfl, (List.forall_mem_cons.mpr ⟨rfl, (List.forall_mem_cons.mpr ⟨rfl, (List.forall_mem_cons.mpr ⟨rfl, (List.forall_mem_cons.mpr ⟨rfl, (List.forall_mem_cons.mpr ⟨rfl, (List.forall_mem_cons.mpr ⟨rfl, (List.forall_mem_cons.mpr ⟨rfl, (fun _ h0 => absurd h0 List.not_mem_nil)⟩)⟩)⟩)⟩)⟩)⟩)⟩)⟩) ?_
  exact t_X0_partAmong_123 hd this arr0 arr1 h_this h_arr0 h_arr1 4000 v2 v5 v6 v1 0 M _ h
def f_X0_partAmong_47 (this : Nat) (arr0 : Nat) (arr1 : Nat) (v1 : Int) (v2 : Int) (v5 : Int) (M : sd_M) : Option (Int × sd_M) := if 0 < v5 then (f_X0_partAmong_59 (f_X0_partAmong_117 this arr0 arr1) this arr0 arr1 4000 v1 v2 v5 v2 0 M) else (some (0, M))
set_option maxRecDepth 4000 in
theorem t_X0_partAmong_47 {X : Nat → List sd_V → List sd_E → sd_A → Prop} {d : Nat} (hd : 1 ≤ d) (this : Nat) (arr0 : Nat) (arr1 : Nat) (h_this : sd_o this 0) (h_arr0 : sd_a arr0 0 9) (h_arr1 : sd_a arr1 0 9) (v1 : Int) (v2 : Int) (v5 : Int) (M : sd_M) (Rr : Int × sd_M) (h : f_X0_partAmong_47 this arr0 arr1 v1 v2 v5 M = some Rr) : sd_B X d sd_q_X0_partAmong 47 [(0, .inr (.inr (some (this)))), (1, .inl (v1)), (2, .inl (v2)), (3, .inr (.inr (some (arr0)))), (4, .inr (.inr (some (arr1)))), (5, .inl (v5))] [] M (none, sd_rp Rr.2, 0, 0) := by
  unfold f_X0_partAmong_47 at h
  refine sd_b_go 1 (pc2 := 49) (lv2 := [(0, .inr (.inr (some (this)))), (1, .inl (v1)), (2, .inl (v2)), (3, .inr (.inr (some (arr0)))), (4, .inr (.inr (some (arr1)))), (5, .inl (v5))]) (st2 := [.inl (v5)]) rfl ?_
  by_cases c1 : 0 < v5
  · rw [if_pos c1] at h
    refine sd_b_zt (c := .gt) (tgt := 53) rfl (decide_eq_true c1) (by decide) ?_
    refine sd_b_go 4 (pc2 := 59) (lv2 := [(7, .inl (0)), (6, .inl (v2)), (0, .inr (.inr (some (this)))), (1, .inl (v1)), (2, .inl (v2)), (3, .inr (.inr (some (arr0)))), (4, .inr (.inr (some (arr1)))), (5, .inl (v5))]) (st2 := []) rfl ?_
    refine sd_b_wk [(0, .inr (.inr (some (this)))), (1, .inl (v1)), (2, .inl (v2)), (3, .inr (.inr (some (arr0)))), (4, .inr (.inr (some (arr1)))), (5, .inl (v5)), (6, .inl (v2)), (7, .inl (0))] (List.forall_mem_cons.mpr ⟨rfl, (List.forall_mem_cons.mpr ⟨rfl, (List.forall_mem_cons.mpr ⟨rfl, (List.forall_mem_cons.mpr ⟨rfl, (List.forall_mem_cons.mpr ⟨rfl, (List.forall_mem_cons.mpr ⟨rfl, (List.forall_mem_cons.mpr ⟨rfl, (List.forall_mem_cons.mpr ⟨rfl, (fun _ h0 => absurd h0 List.not_mem_nil)⟩)⟩)⟩)⟩)⟩)⟩)⟩)⟩) ?_
    exact t_X0_partAmong_59 hd this arr0 arr1 h_this h_arr0 h_arr1 (f_X0_partAmong_117 this arr0 arr1) (t_X0_partAmong_117 hd this arr0 arr1 h_this h_arr0 h_arr1) 4000 v1 v2 v5 v2 0 M _ h
  · rw [if_neg c1] at h
    refine sd_b_zf (c := .gt) rfl (decide_eq_false c1) (by decide) ?_
    cases h
    exact sd_b_rt rfl rfl rfl
def f_X0_partAmong (this : Nat) (arr0 : Nat) (arr1 : Nat) (p1 : Int) (p2 : Int) (M : sd_M) : Option (Int × sd_M) := f_X0_partAmong_6 (f_X0_partAmong_47 this arr0 arr1) this arr0 arr1 4000 p1 p2 0 0 M
set_option maxRecDepth 4000 in
theorem t_X0_partAmong {X : Nat → List sd_V → List sd_E → sd_A → Prop} {d : Nat} (hd : 1 ≤ d) (this : Nat) (arr0 : Nat) (arr1 : Nat) (h_this : sd_o this 0) (h_arr0 : sd_a arr0 0 9) (h_arr1 : sd_a arr1 0 9) (p1 : Int) (p2 : Int) (M : sd_M) (Rr : Int × sd_M) (h : f_X0_partAmong this arr0 arr1 p1 p2 M = some Rr) : sd_B X d sd_q_X0_partAmong 0 [(0, .inr (.inr (some (this)))), (1, .inl (p1)), (2, .inl (p2)), (3, .inr (.inr (some (arr0)))), (4, .inr (.inr (some (arr1))))] [] M (none, sd_rp Rr.2, 0, 0) := by
  unfold f_X0_partAmong at h
  refine sd_b_go 4 (pc2 := 6) (lv2 := [(6, .inl (0)), (5, .inl (0)), (0, .inr (.inr (some (this)))), (1, .inl (p1)), (2, .inl (p2)), (3, .inr (.inr (some (arr0)))), (4, .inr (.inr (some (arr1))))]) (st2 := []) rfl ?_
  refine sd_b_wk [(0, .inr (.inr (some (this)))), (1, .inl (p1)), (2, .inl (p2)), (3, .inr (.inr (some (arr0)))), (4, .inr (.inr (some (arr1)))), (5, .inl (0)), (6, .inl (0))] (List.forall_mem_cons.mpr ⟨rfl, (List.forall_mem_cons.mpr ⟨rfl, (List.forall_mem_cons.mpr ⟨rfl, (List.forall_mem_cons.mpr ⟨rfl, (List.forall_mem_cons.mpr ⟨rfl, (List.forall_mem_cons.mpr ⟨rfl, (List.forall_mem_cons.mpr ⟨rfl, (fun _ h0 => absurd h0 List.not_mem_nil)⟩)⟩)⟩)⟩)⟩)⟩)⟩) ?_
  exact t_X0_partAmong_6 hd this arr0 arr1 h_this h_arr0 h_arr1 (f_X0_partAmong_47 this arr0 arr1) (t_X0_partAmong_47 hd this arr0 arr1 h_this h_arr0 h_arr1) 4000 p1 p2 0 0 M _ h
theorem m_X0_partAmong {X : Nat → List sd_V → List sd_E → sd_A → Prop} {d : Nat} (hd : 2 ≤ d) {this : Nat} {arr0 : Nat} {arr1 : Nat} (h_this : sd_o this 0) (h_arr0 : sd_a arr0 0 9) (h_arr1 : sd_a arr1 0 9) {p1 : Int} {p2 : Int} {M : sd_M} {Rr : Int × sd_M} (h : f_X0_partAmong this arr0 arr1 p1 p2 M = some Rr) : sd_Cal X d 18 [.inr (.inr (some (this))), .inl (p1), .inl (p2), .inr (.inr (some (arr0))), .inr (.inr (some (arr1)))] (sd_rp M) (none, sd_rp Rr.2, 0, 0) := by
  obtain ⟨d, rfl⟩ : ∃ d2, d = d2 + 1 := ⟨d - 1, by omega⟩
  exact sd_cal_of sd_i_X0_partAmong (Nat.le_of_ble_eq_true rfl) (t_X0_partAmong (by omega) this arr0 arr1 h_this h_arr0 h_arr1 p1 p2 M Rr h)
-- X1_layWords
def sd_q_X1_layWords : sd_MI := (yX1_layWords, cX1_layWords, 3, none, 1, 2, sd_t_X1_layWords)
set_option maxRecDepth 4000 in
theorem sd_i_X1_layWords : sd_mL[23]? = some sd_q_X1_layWords := rfl
def f_X1_layWords (book : Nat) (p2 : Int) (M : sd_M) : Option (Int × sd_M) := (f_X0_lacking book (sd_s (sd_s (sd_s M 317 4 (M book 3)) 317 5 (sd_s M 317 4 (M book 3) book 2)) 317 6 (sd_s (sd_s M 317 4 (M book 3)) 317 5 (sd_s M 317 4 (M book 3) book 2) book 0))).bind fun r1 => (f_J6_bitCount_0f7a4 p2 (sd_s r1.2 317 7 r1.1)).bind fun r2 => some (0, sd_s (sd_s (sd_s r2.2 317 8 r2.1) 317 9 (sd_s r2.2 317 8 r2.1 book 4)) 317 10 (sd_s (sd_s r2.2 317 8 r2.1) 317 9 (sd_s r2.2 317 8 r2.1 book 4) book 1))
set_option maxRecDepth 4000 in
theorem t_X1_layWords {X : Nat → List sd_V → List sd_E → sd_A → Prop} {d : Nat} (hd : 1 ≤ d) (book : Nat) (h_book : sd_o book 0) (p2 : Int) (M : sd_M) (Rr : Int × sd_M) (h : f_X1_layWords book p2 M = some Rr) : sd_B X d sd_q_X1_layWords 0 [(0, .inr (.inr (some (316)))), (1, .inr (.inr (some (book)))), (2, .inl (p2))] [] M (none, sd_rp Rr.2, 0, 0) := by
  unfold f_X1_layWords at h
  refine sd_b_go 1 (pc2 := 1) (lv2 := [(0, .inr (.inr (some (316)))), (1, .inr (.inr (some (book)))), (2, .inl (p2))]) (st2 := [.inr (.inr (some (316)))]) rfl ?_
  refine sd_b_gr (k := 0) sd_o_316 rfl rfl rfl ?_
  refine sd_b_go 2 (pc2 := 6) (lv2 := [(0, .inr (.inr (some (316)))), (1, .inr (.inr (some (book)))), (2, .inl (p2))]) (st2 := [.inr (.inr (some (book))), .inl (4), .inr (.inr (some (317)))]) rfl ?_
  refine sd_b_gi (k := 3) h_book rfl rfl rfl ?_
  refine sd_b_go 1 (pc2 := 10) (lv2 := [(0, .inr (.inr (some (316)))), (1, .inr (.inr (some (book)))), (2, .inl (p2))]) (st2 := [.inr (.inl (M book 3)), .inl (4), .inr (.inr (some (317)))]) rfl ?_
  refine sd_b_sl (i := 4) (sd_oa sd_o_316 (by decide) (off := 1) (List.mem_of_getElem? (i := 0) rfl)) (by decide) rfl ?_
  refine sd_b_go 1 (pc2 := 12) (lv2 := [(0, .inr (.inr (some (316)))), (1, .inr (.inr (some (book)))), (2, .inl (p2))]) (st2 := [.inr (.inr (some (316)))]) rfl ?_
  refine sd_b_gr (k := 0) sd_o_316 rfl rfl rfl ?_
  refine sd_b_go 2 (pc2 := 17) (lv2 := [(0, .inr (.inr (some (316)))), (1, .inr (.inr (some (book)))), (2, .inl (p2))]) (st2 := [.inr (.inr (some (book))), .inl (5), .inr (.inr (some (317)))]) rfl ?_
  refine sd_b_gi (k := 2) h_book rfl rfl rfl ?_
  refine sd_b_go 1 (pc2 := 21) (lv2 := [(0, .inr (.inr (some (316)))), (1, .inr (.inr (some (book)))), (2, .inl (p2))]) (st2 := [.inr (.inl (sd_s M 317 4 (M book 3) book 2)), .inl (5), .inr (.inr (some (317)))]) rfl ?_
  refine sd_b_sl (i := 5) (sd_oa sd_o_316 (by decide) (off := 1) (List.mem_of_getElem? (i := 0) rfl)) (by decide) rfl ?_
  refine sd_b_go 1 (pc2 := 23) (lv2 := [(0, .inr (.inr (some (316)))), (1, .inr (.inr (some (book)))), (2, .inl (p2))]) (st2 := [.inr (.inr (some (316)))]) rfl ?_
  refine sd_b_gr (k := 0) sd_o_316 rfl rfl rfl ?_
  refine sd_b_go 2 (pc2 := 29) (lv2 := [(0, .inr (.inr (some (316)))), (1, .inr (.inr (some (book)))), (2, .inl (p2))]) (st2 := [.inr (.inr (some (book))), .inl (6), .inr (.inr (some (317)))]) rfl ?_
  refine sd_b_gi (k := 0) h_book rfl rfl rfl ?_
  refine sd_b_go 1 (pc2 := 33) (lv2 := [(0, .inr (.inr (some (316)))), (1, .inr (.inr (some (book)))), (2, .inl (p2))]) (st2 := [.inr (.inl (sd_s (sd_s M 317 4 (M book 3)) 317 5 (sd_s M 317 4 (M book 3) book 2) book 0)), .inl (6), .inr (.inr (some (317)))]) rfl ?_
  refine sd_b_sl (i := 6) (sd_oa sd_o_316 (by decide) (off := 1) (List.mem_of_getElem? (i := 0) rfl)) (by decide) rfl ?_
  refine sd_b_go 1 (pc2 := 35) (lv2 := [(0, .inr (.inr (some (316)))), (1, .inr (.inr (some (book)))), (2, .inl (p2))]) (st2 := [.inr (.inr (some (316)))]) rfl ?_
  refine sd_b_gr (k := 0) sd_o_316 rfl rfl rfl ?_
  refine sd_b_go 2 (pc2 := 41) (lv2 := [(0, .inr (.inr (some (316)))), (1, .inr (.inr (some (book)))), (2, .inl (p2))]) (st2 := [.inr (.inr (some (book))), .inl (7), .inr (.inr (some (317)))]) rfl ?_
  obtain ⟨r1, e1, h⟩ := sd_bnd h
  refine sd_b_call [.inr (.inr (some (book)))] [.inl (7), .inr (.inr (some (317)))] rfl rfl sd_i_X0_lacking rfl rfl (Nat.le_of_ble_eq_true rfl) (sd_rc_v h_book) (m_X0_lacking (by omega) h_book e1) ?_
  refine sd_b_go 1 (pc2 := 45) (lv2 := [(0, .inr (.inr (some (316)))), (1, .inr (.inr (some (book)))), (2, .inl (p2))]) (st2 := [.inr (.inl (r1.1)), .inl (7), .inr (.inr (some (317)))]) rfl ?_
  refine sd_b_sl (i := 7) (sd_oa sd_o_316 (by decide) (off := 1) (List.mem_of_getElem? (i := 0) rfl)) (by decide) rfl ?_
  refine sd_b_go 1 (pc2 := 47) (lv2 := [(0, .inr (.inr (some (316)))), (1, .inr (.inr (some (book)))), (2, .inl (p2))]) (st2 := [.inr (.inr (some (316)))]) rfl ?_
  refine sd_b_gr (k := 0) sd_o_316 rfl rfl rfl ?_
  refine sd_b_go 2 (pc2 := 53) (lv2 := [(0, .inr (.inr (some (316)))), (1, .inr (.inr (some (book)))), (2, .inl (p2))]) (st2 := [.inl (p2), .inl (8), .inr (.inr (some (317)))]) rfl ?_
  obtain ⟨r2, e2, h⟩ := sd_bnd h
  refine sd_b_call [.inl (p2)] [.inl (8), .inr (.inr (some (317)))] rfl rfl sd_i_J6_bitCount_0f7a4 rfl rfl (Nat.le_of_ble_eq_true rfl) rfl (m_J6_bitCount_0f7a4 (by omega) e2) ?_
  refine sd_b_go 1 (pc2 := 57) (lv2 := [(0, .inr (.inr (some (316)))), (1, .inr (.inr (some (book)))), (2, .inl (p2))]) (st2 := [.inr (.inl (r2.1)), .inl (8), .inr (.inr (some (317)))]) rfl ?_
  refine sd_b_sl (i := 8) (sd_oa sd_o_316 (by decide) (off := 1) (List.mem_of_getElem? (i := 0) rfl)) (by decide) rfl ?_
  refine sd_b_go 1 (pc2 := 59) (lv2 := [(0, .inr (.inr (some (316)))), (1, .inr (.inr (some (book)))), (2, .inl (p2))]) (st2 := [.inr (.inr (some (316)))]) rfl ?_
  refine sd_b_gr (k := 0) sd_o_316 rfl rfl rfl ?_
  refine sd_b_go 2 (pc2 := 65) (lv2 := [(0, .inr (.inr (some (316)))), (1, .inr (.inr (some (book)))), (2, .inl (p2))]) (st2 := [.inr (.inr (some (book))), .inl (9), .inr (.inr (some (317)))]) rfl ?_
  refine sd_b_gi (k := 4) h_book rfl rfl rfl ?_
  refine sd_b_go 1 (pc2 := 69) (lv2 := [(0, .inr (.inr (some (316)))), (1, .inr (.inr (some (book)))), (2, .inl (p2))]) (st2 := [.inr (.inl (sd_s r2.2 317 8 r2.1 book 4)), .inl (9), .inr (.inr (some (317)))]) rfl ?_
  refine sd_b_sl (i := 9) (sd_oa sd_o_316 (by decide) (off := 1) (List.mem_of_getElem? (i := 0) rfl)) (by decide) rfl ?_
  refine sd_b_go 1 (pc2 := 71) (lv2 := [(0, .inr (.inr (some (316)))), (1, .inr (.inr (some (book)))), (2, .inl (p2))]) (st2 := [.inr (.inr (some (316)))]) rfl ?_
  refine sd_b_gr (k := 0) sd_o_316 rfl rfl rfl ?_
  refine sd_b_go 2 (pc2 := 77) (lv2 := [(0, .inr (.inr (some (316)))), (1, .inr (.inr (some (book)))), (2, .inl (p2))]) (st2 := [.inr (.inr (some (book))), .inl (10), .inr (.inr (some (317)))]) rfl ?_
  refine sd_b_gi (k := 1) h_book rfl rfl rfl ?_
  refine sd_b_go 1 (pc2 := 81) (lv2 := [(0, .inr (.inr (some (316)))), (1, .inr (.inr (some (book)))), (2, .inl (p2))]) (st2 := [.inr (.inl (sd_s (sd_s r2.2 317 8 r2.1) 317 9 (sd_s r2.2 317 8 r2.1 book 4) book 1)), .inl (10), .inr (.inr (some (317)))]) rfl ?_
  refine sd_b_sl (i := 10) (sd_oa sd_o_316 (by decide) (off := 1) (List.mem_of_getElem? (i := 0) rfl)) (by decide) rfl ?_
  cases h
  exact sd_b_rt rfl rfl rfl
theorem m_X1_layWords {X : Nat → List sd_V → List sd_E → sd_A → Prop} {d : Nat} (hd : 2 ≤ d) {book : Nat} (h_book : sd_o book 0) {p2 : Int} {M : sd_M} {Rr : Int × sd_M} (h : f_X1_layWords book p2 M = some Rr) : sd_Cal X d 23 [.inr (.inr (some (316))), .inr (.inr (some (book))), .inl (p2)] (sd_rp M) (none, sd_rp Rr.2, 0, 0) := by
  obtain ⟨d, rfl⟩ : ∃ d2, d = d2 + 1 := ⟨d - 1, by omega⟩
  exact sd_cal_of sd_i_X1_layWords (Nat.le_of_ble_eq_true rfl) (t_X1_layWords (by omega) book h_book p2 M Rr h)
-- X2_copyFrom
def sd_q_X2_copyFrom : sd_MI := (yX2_copyFrom, cX2_copyFrom, 2, none, 2, 1, sd_t_X2_copyFrom)
set_option maxRecDepth 4000 in
theorem sd_i_X2_copyFrom : sd_mL[25]? = some sd_q_X2_copyFrom := rfl
def f_X2_copyFrom (this : Nat) (other : Nat) (M : sd_M) : Option (Int × sd_M) := (f_X8_copyFrom (this + 1) (other + 1) M).bind fun r1 => (f_X0_copyFrom (this + 8) (other + 8) r1.2).bind fun r2 => (f_X3_copyFrom (this + 16) (other + 16) r2.2).bind fun r3 => some (0, sd_s (sd_s r3.2 this 3 (r3.2 other 3)) this 4 (sd_s r3.2 this 3 (r3.2 other 3) other 4))
set_option maxRecDepth 4000 in
theorem t_X2_copyFrom {X : Nat → List sd_V → List sd_E → sd_A → Prop} {d : Nat} (hd : 1 ≤ d) (this : Nat) (other : Nat) (h_this : sd_o this 2) (h_other : sd_o other 2) (M : sd_M) (Rr : Int × sd_M) (h : f_X2_copyFrom this other M = some Rr) : sd_B X d sd_q_X2_copyFrom 0 [(0, .inr (.inr (some (this)))), (1, .inr (.inr (some (other))))] [] M (none, sd_rp Rr.2, 0, 0) := by
  unfold f_X2_copyFrom at h
  refine sd_b_go 1 (pc2 := 1) (lv2 := [(0, .inr (.inr (some (this)))), (1, .inr (.inr (some (other))))]) (st2 := [.inr (.inr (some (this)))]) rfl ?_
  refine sd_b_gr (k := 0) h_this rfl rfl rfl ?_
  refine sd_b_go 1 (pc2 := 5) (lv2 := [(0, .inr (.inr (some (this)))), (1, .inr (.inr (some (other))))]) (st2 := [.inr (.inr (some (other))), .inr (.inr (some (this + 1)))]) rfl ?_
  refine sd_b_gr (k := 0) h_other rfl rfl rfl ?_
  obtain ⟨r1, e1, h⟩ := sd_bnd h
  refine sd_b_call [.inr (.inr (some (this + 1))), .inr (.inr (some (other + 1)))] [] rfl rfl sd_i_X8_copyFrom rfl rfl (Nat.le_of_ble_eq_true rfl) (sd_rc_v (sd_oo h_this (by decide) (off := 1) (List.mem_of_getElem? (i := 0) rfl))) (m_X8_copyFrom (by omega) (sd_oo h_this (by decide) (off := 1) (List.mem_of_getElem? (i := 0) rfl)) (sd_oo h_other (by decide) (off := 1) (List.mem_of_getElem? (i := 0) rfl)) e1) ?_
  refine sd_b_go 1 (pc2 := 12) (lv2 := [(0, .inr (.inr (some (this)))), (1, .inr (.inr (some (other))))]) (st2 := [.inr (.inr (some (this)))]) rfl ?_
  refine sd_b_gr (k := 1) h_this rfl rfl rfl ?_
  refine sd_b_go 1 (pc2 := 16) (lv2 := [(0, .inr (.inr (some (this)))), (1, .inr (.inr (some (other))))]) (st2 := [.inr (.inr (some (other))), .inr (.inr (some (this + 8)))]) rfl ?_
  refine sd_b_gr (k := 1) h_other rfl rfl rfl ?_
  obtain ⟨r2, e2, h⟩ := sd_bnd h
  refine sd_b_call [.inr (.inr (some (this + 8))), .inr (.inr (some (other + 8)))] [] rfl rfl sd_i_X0_copyFrom rfl rfl (Nat.le_of_ble_eq_true rfl) (sd_rc_v (sd_oo h_this (by decide) (off := 8) (List.mem_of_getElem? (i := 1) rfl))) (m_X0_copyFrom (by omega) (sd_oo h_this (by decide) (off := 8) (List.mem_of_getElem? (i := 1) rfl)) (sd_oo h_other (by decide) (off := 8) (List.mem_of_getElem? (i := 1) rfl)) e2) ?_
  refine sd_b_go 1 (pc2 := 23) (lv2 := [(0, .inr (.inr (some (this)))), (1, .inr (.inr (some (other))))]) (st2 := [.inr (.inr (some (this)))]) rfl ?_
  refine sd_b_gr (k := 2) h_this rfl rfl rfl ?_
  refine sd_b_go 1 (pc2 := 27) (lv2 := [(0, .inr (.inr (some (this)))), (1, .inr (.inr (some (other))))]) (st2 := [.inr (.inr (some (other))), .inr (.inr (some (this + 16)))]) rfl ?_
  refine sd_b_gr (k := 2) h_other rfl rfl rfl ?_
  obtain ⟨r3, e3, h⟩ := sd_bnd h
  refine sd_b_call [.inr (.inr (some (this + 16))), .inr (.inr (some (other + 16)))] [] rfl rfl sd_i_X3_copyFrom rfl rfl (Nat.le_of_ble_eq_true rfl) (sd_rc_v (sd_oo h_this (by decide) (off := 16) (List.mem_of_getElem? (i := 2) rfl))) (m_X3_copyFrom (by omega) (sd_oo h_this (by decide) (off := 16) (List.mem_of_getElem? (i := 2) rfl)) (sd_oo h_other (by decide) (off := 16) (List.mem_of_getElem? (i := 2) rfl)) e3) ?_
  refine sd_b_go 2 (pc2 := 35) (lv2 := [(0, .inr (.inr (some (this)))), (1, .inr (.inr (some (other))))]) (st2 := [.inr (.inr (some (other))), .inr (.inr (some (this)))]) rfl ?_
  refine sd_b_gi (k := 3) h_other rfl rfl rfl ?_
  refine sd_b_pi (k := 3) h_this rfl rfl rfl rfl rfl ?_
  refine sd_b_go 2 (pc2 := 43) (lv2 := [(0, .inr (.inr (some (this)))), (1, .inr (.inr (some (other))))]) (st2 := [.inr (.inr (some (other))), .inr (.inr (some (this)))]) rfl ?_
  refine sd_b_gi (k := 4) h_other rfl rfl rfl ?_
  refine sd_b_pi (k := 4) h_this rfl rfl rfl rfl rfl ?_
  cases h
  exact sd_b_rt rfl rfl rfl
theorem m_X2_copyFrom {X : Nat → List sd_V → List sd_E → sd_A → Prop} {d : Nat} (hd : 2 ≤ d) {this : Nat} {other : Nat} (h_this : sd_o this 2) (h_other : sd_o other 2) {M : sd_M} {Rr : Int × sd_M} (h : f_X2_copyFrom this other M = some Rr) : sd_Cal X d 25 [.inr (.inr (some (this))), .inr (.inr (some (other)))] (sd_rp M) (none, sd_rp Rr.2, 0, 0) := by
  obtain ⟨d, rfl⟩ : ∃ d2, d = d2 + 1 := ⟨d - 1, by omega⟩
  exact sd_cal_of sd_i_X2_copyFrom (Nat.le_of_ble_eq_true rfl) (t_X2_copyFrom (by omega) this other h_this h_other M Rr h)
-- X4_run
def sd_q_X4_run : sd_MI := (yX4_run, cX4_run, 7, (some .long), 4, 3, sd_t_X4_run)
set_option maxRecDepth 4000 in
theorem sd_i_X4_run : sd_mL[37]? = some sd_q_X4_run := rfl
def f_X4_run_200 (k6 : Int → Int → Int → sd_M → Option (Int × sd_M)) (k206 : Int → sd_M → Option (Int × sd_M)) (this : Nat) (v2 : Int) (v4 : Int) (v5 : Int) (M : sd_M) : Option (Int × sd_M) := k6 v2 v4 (sd_w (v5 + 1)) M
set_option maxRecDepth 4000 in
theorem t_X4_run_200 {X : Nat → List sd_V → List sd_E → sd_A → Prop} {d : Nat} (hd : 1 ≤ d) (this : Nat) (h_this : sd_o this 4) (k6 : Int → Int → Int → sd_M → Option (Int × sd_M)) (k206 : Int → sd_M → Option (Int × sd_M)) (hk6 : ∀ (v2 : Int) (v4 : Int) (v5 : Int) (M : sd_M) (Rr : Int × sd_M), k6 v2 v4 v5 M = some Rr → sd_B X d sd_q_X4_run 6 [(0, .inr (.inr (some (this)))), (2, .inl (v2)), (3, .inr (.inr (some (317)))), (4, .inl (v4)), (5, .inl (v5))] [] M (some (.inr (.inl Rr.1)), sd_rp Rr.2, 0, 0)) (hk206 : ∀ (v4 : Int) (M : sd_M) (Rr : Int × sd_M), k206 v4 M = some Rr → sd_B X d sd_q_X4_run 206 [(0, .inr (.inr (some (this)))), (4, .inl (v4))] [] M (some (.inr (.inl Rr.1)), sd_rp Rr.2, 0, 0)) (v2 : Int) (v4 : Int) (v5 : Int) (M : sd_M) (Rr : Int × sd_M) (h : f_X4_run_200 k6 k206 this v2 v4 v5 M = some Rr) : sd_B X d sd_q_X4_run 200 [(0, .inr (.inr (some (this)))), (2, .inl (v2)), (3, .inr (.inr (some (317)))), (4, .inl (v4)), (5, .inl (v5))] [] M (some (.inr (.inl Rr.1)), sd_rp Rr.2, 0, 0) := by
  unfold f_X4_run_200 at h
  refine sd_b_go 2 (pc2 := 6) (lv2 := [(5, .inl (sd_w (v5 + 1))), (0, .inr (.inr (some (this)))), (2, .inl (v2)), (3, .inr (.inr (some (317)))), (4, .inl (v4))]) (st2 := []) rfl ?_
  refine sd_b_wk [(0, .inr (.inr (some (this)))), (2, .inl (v2)), (3, .inr (.inr (some (317)))), (4, .inl (v4)), (5, .inl (sd_w (v5 + 1)))] (List.forall_mem_cons.mpr ⟨rfl, (List.forall_mem_cons.mpr ⟨rfl, (List.forall_mem_cons.mpr ⟨rfl, (List.forall_mem_cons.mpr ⟨rfl, (List.forall_mem_cons.mpr ⟨rfl, (fun _ h0 => absurd h0 List.not_mem_nil)⟩)⟩)⟩)⟩)⟩) ?_
  exact hk6 v2 v4 (sd_w (v5 + 1)) M _ h
def f_X4_run_199 (k6 : Int → Int → Int → sd_M → Option (Int × sd_M)) (k206 : Int → sd_M → Option (Int × sd_M)) (this : Nat) (v2 : Int) (v4 : Int) (v5 : Int) (s0 : Int) (s1 : Int) (M : sd_M) : Option (Int × sd_M) := if 0 ≤ s1 ∧ s1 < 64 then (f_X4_run_200 k6 k206 this v2 v4 v5 (sd_s M (this + 6) s1.toNat s0)) else none
set_option maxRecDepth 4000 in
theorem t_X4_run_199 {X : Nat → List sd_V → List sd_E → sd_A → Prop} {d : Nat} (hd : 1 ≤ d) (this : Nat) (h_this : sd_o this 4) (k6 : Int → Int → Int → sd_M → Option (Int × sd_M)) (k206 : Int → sd_M → Option (Int × sd_M)) (hk6 : ∀ (v2 : Int) (v4 : Int) (v5 : Int) (M : sd_M) (Rr : Int × sd_M), k6 v2 v4 v5 M = some Rr → sd_B X d sd_q_X4_run 6 [(0, .inr (.inr (some (this)))), (2, .inl (v2)), (3, .inr (.inr (some (317)))), (4, .inl (v4)), (5, .inl (v5))] [] M (some (.inr (.inl Rr.1)), sd_rp Rr.2, 0, 0)) (hk206 : ∀ (v4 : Int) (M : sd_M) (Rr : Int × sd_M), k206 v4 M = some Rr → sd_B X d sd_q_X4_run 206 [(0, .inr (.inr (some (this)))), (4, .inl (v4))] [] M (some (.inr (.inl Rr.1)), sd_rp Rr.2, 0, 0)) (v2 : Int) (v4 : Int) (v5 : Int) (s0 : Int) (s1 : Int) (M : sd_M) (Rr : Int × sd_M) (h : f_X4_run_199 k6 k206 this v2 v4 v5 s0 s1 M = some Rr) : sd_B X d sd_q_X4_run 199 [(0, .inr (.inr (some (this)))), (2, .inl (v2)), (3, .inr (.inr (some (317)))), (4, .inl (v4)), (5, .inl (v5))] [.inr (.inl (s0)), .inl (s1), .inr (.inr (some (this + 6)))] M (some (.inr (.inl Rr.1)), sd_rp Rr.2, 0, 0) := by
  unfold f_X4_run_199 at h
  obtain ⟨g1, h⟩ := sd_if h
  refine sd_b_sl (sd_oa h_this (by decide) (off := 6) (List.mem_of_getElem? (i := 5) rfl)) g1 rfl ?_
  refine sd_b_wk [(0, .inr (.inr (some (this)))), (2, .inl (v2)), (3, .inr (.inr (some (317)))), (4, .inl (v4)), (5, .inl (v5))] (List.forall_mem_cons.mpr ⟨rfl, (List.forall_mem_cons.mpr ⟨rfl, (List.forall_mem_cons.mpr ⟨rfl, (List.forall_mem_cons.mpr ⟨rfl, (List.forall_mem_cons.mpr ⟨rfl, (fun _ h0 => absurd h0 List.not_mem_nil)⟩)⟩)⟩)⟩)⟩) ?_
  exact t_X4_run_200 hd this h_this k6 k206 hk6 hk206 v2 v4 v5 (sd_s M (this + 6) s1.toNat s0) _ h
def f_X4_run_132 (k6 : Int → Int → Int → sd_M → Option (Int × sd_M)) (k206 : Int → sd_M → Option (Int × sd_M)) (this : Nat) (v2 : Int) (v4 : Int) (v5 : Int) (v6 : Int) (M : sd_M) : Option (Int × sd_M) := if v4 < 1 then (f_X4_run_200 k6 k206 this v2 v4 v5 M) else (if 7 ≤ v6 then (if 0 ≤ (sd_w (v4 + (-1))) ∧ (sd_w (v4 + (-1))) < 64 then (if 0 ≤ (sd_w ((sd_w (v4 + (-1))) + 1)) ∧ (sd_w ((sd_w (v4 + (-1))) + 1)) < 64 then ((f_X4_truth v6 (M (this + 6) (sd_w (v4 + (-1))).toNat) (M (this + 6) (sd_w ((sd_w (v4 + (-1))) + 1)).toNat) M).bind fun r5 => f_X4_run_199 k6 k206 this v2 (sd_w (v4 + (-1))) v5 r5.1 (sd_w (v4 + (-1))) r5.2) else none) else none) else (if 0 ≤ (sd_w (v4 + (-1))) ∧ (sd_w (v4 + (-1))) < 64 then (if 0 ≤ (sd_w ((sd_w (v4 + (-1))) + 1)) ∧ (sd_w ((sd_w (v4 + (-1))) + 1)) < 64 then ((f_X4_reckon v6 (M (this + 6) (sd_w (v4 + (-1))).toNat) (M (this + 6) (sd_w ((sd_w (v4 + (-1))) + 1)).toNat) M).bind fun r8 => f_X4_run_199 k6 k206 this v2 (sd_w (v4 + (-1))) v5 r8.1 (sd_w (v4 + (-1))) r8.2) else none) else none))
set_option maxRecDepth 4000 in
theorem t_X4_run_132 {X : Nat → List sd_V → List sd_E → sd_A → Prop} {d : Nat} (hd : 1 ≤ d) (this : Nat) (h_this : sd_o this 4) (k6 : Int → Int → Int → sd_M → Option (Int × sd_M)) (k206 : Int → sd_M → Option (Int × sd_M)) (hk6 : ∀ (v2 : Int) (v4 : Int) (v5 : Int) (M : sd_M) (Rr : Int × sd_M), k6 v2 v4 v5 M = some Rr → sd_B X d sd_q_X4_run 6 [(0, .inr (.inr (some (this)))), (2, .inl (v2)), (3, .inr (.inr (some (317)))), (4, .inl (v4)), (5, .inl (v5))] [] M (some (.inr (.inl Rr.1)), sd_rp Rr.2, 0, 0)) (hk206 : ∀ (v4 : Int) (M : sd_M) (Rr : Int × sd_M), k206 v4 M = some Rr → sd_B X d sd_q_X4_run 206 [(0, .inr (.inr (some (this)))), (4, .inl (v4))] [] M (some (.inr (.inl Rr.1)), sd_rp Rr.2, 0, 0)) (v2 : Int) (v4 : Int) (v5 : Int) (v6 : Int) (M : sd_M) (Rr : Int × sd_M) (h : f_X4_run_132 k6 k206 this v2 v4 v5 v6 M = some Rr) : sd_B X d sd_q_X4_run 132 [(0, .inr (.inr (some (this)))), (2, .inl (v2)), (3, .inr (.inr (some (317)))), (4, .inl (v4)), (5, .inl (v5)), (6, .inl (v6))] [] M (some (.inr (.inl Rr.1)), sd_rp Rr.2, 0, 0) := by
  unfold f_X4_run_132 at h
  refine sd_b_go 2 (pc2 := 135) (lv2 := [(0, .inr (.inr (some (this)))), (2, .inl (v2)), (3, .inr (.inr (some (317)))), (4, .inl (v4)), (5, .inl (v5)), (6, .inl (v6))]) (st2 := [.inl (1), .inl (v4)]) rfl ?_
  by_cases c1 : v4 < 1
  · rw [if_pos c1] at h
    refine sd_b_ct (c := .lt) (tgt := 200) rfl (decide_eq_true c1) (by decide) ?_
    refine sd_b_wk [(0, .inr (.inr (some (this)))), (2, .inl (v2)), (3, .inr (.inr (some (317)))), (4, .inl (v4)), (5, .inl (v5))] (List.forall_mem_cons.mpr ⟨rfl, (List.forall_mem_cons.mpr ⟨rfl, (List.forall_mem_cons.mpr ⟨rfl, (List.forall_mem_cons.mpr ⟨rfl, (List.forall_mem_cons.mpr ⟨rfl, (fun _ h0 => absurd h0 List.not_mem_nil)⟩)⟩)⟩)⟩)⟩) ?_
    exact t_X4_run_200 hd this h_this k6 k206 hk6 hk206 v2 v4 v5 M _ h
  · rw [if_neg c1] at h
    refine sd_b_cf (c := .lt) rfl (decide_eq_false c1) (by decide) ?_
    refine sd_b_go 2 (pc2 := 142) (lv2 := [(4, .inl (sd_w (v4 + (-1)))), (0, .inr (.inr (some (this)))), (2, .inl (v2)), (3, .inr (.inr (some (317)))), (5, .inl (v5)), (6, .inl (v6))]) (st2 := [.inr (.inr (some (this)))]) rfl ?_
    refine sd_b_gr (k := 7) h_this rfl rfl rfl ?_
    refine sd_b_go 3 (pc2 := 151) (lv2 := [(4, .inl (sd_w (v4 + (-1)))), (0, .inr (.inr (some (this)))), (2, .inl (v2)), (3, .inr (.inr (some (317)))), (5, .inl (v5)), (6, .inl (v6))]) (st2 := [.inl (7), .inl (v6), .inl (sd_w (v4 + (-1))), .inr (.inr (some (this + 6)))]) rfl ?_
    by_cases c2 : 7 ≤ v6
    · rw [if_pos c2] at h
      refine sd_b_ct (c := .ge) (tgt := 178) rfl (decide_eq_true c2) (by decide) ?_
      refine sd_b_go 2 (pc2 := 181) (lv2 := [(4, .inl (sd_w (v4 + (-1)))), (0, .inr (.inr (some (this)))), (2, .inl (v2)), (3, .inr (.inr (some (317)))), (5, .inl (v5)), (6, .inl (v6))]) (st2 := [.inr (.inr (some (this))), .inl (v6), .inl (sd_w (v4 + (-1))), .inr (.inr (some (this + 6)))]) rfl ?_
      refine sd_b_gr (k := 7) h_this rfl rfl rfl ?_
      refine sd_b_go 1 (pc2 := 186) (lv2 := [(4, .inl (sd_w (v4 + (-1)))), (0, .inr (.inr (some (this)))), (2, .inl (v2)), (3, .inr (.inr (some (317)))), (5, .inl (v5)), (6, .inl (v6))]) (st2 := [.inl (sd_w (v4 + (-1))), .inr (.inr (some (this + 6))), .inl (v6), .inl (sd_w (v4 + (-1))), .inr (.inr (some (this + 6)))]) rfl ?_
      obtain ⟨g3, h⟩ := sd_if h
      refine sd_b_al (sd_oa h_this (by decide) (off := 6) (List.mem_of_getElem? (i := 5) rfl)) g3 rfl ?_
      refine sd_b_go 1 (pc2 := 188) (lv2 := [(4, .inl (sd_w (v4 + (-1)))), (0, .inr (.inr (some (this)))), (2, .inl (v2)), (3, .inr (.inr (some (317)))), (5, .inl (v5)), (6, .inl (v6))]) (st2 := [.inr (.inr (some (this))), .inr (.inl (M (this + 6) (sd_w (v4 + (-1))).toNat)), .inl (v6), .inl (sd_w (v4 + (-1))), .inr (.inr (some (this + 6)))]) rfl ?_
      refine sd_b_gr (k := 7) h_this rfl rfl rfl ?_
      refine sd_b_go 3 (pc2 := 195) (lv2 := [(4, .inl (sd_w (v4 + (-1)))), (0, .inr (.inr (some (this)))), (2, .inl (v2)), (3, .inr (.inr (some (317)))), (5, .inl (v5)), (6, .inl (v6))]) (st2 := [.inl (sd_w ((sd_w (v4 + (-1))) + 1)), .inr (.inr (some (this + 6))), .inr (.inl (M (this + 6) (sd_w (v4 + (-1))).toNat)), .inl (v6), .inl (sd_w (v4 + (-1))), .inr (.inr (some (this + 6)))]) rfl ?_
      obtain ⟨g4, h⟩ := sd_if h
      refine sd_b_al (sd_oa h_this (by decide) (off := 6) (List.mem_of_getElem? (i := 5) rfl)) g4 rfl ?_
      obtain ⟨r5, e5, h⟩ := sd_bnd h
      refine sd_b_call [.inl (v6), .inr (.inl (M (this + 6) (sd_w (v4 + (-1))).toNat)), .inr (.inl (M (this + 6) (sd_w ((sd_w (v4 + (-1))) + 1)).toNat))] [.inl (sd_w (v4 + (-1))), .inr (.inr (some (this + 6)))] rfl rfl sd_i_X4_truth rfl rfl (Nat.le_of_ble_eq_true rfl) rfl (m_X4_truth (by omega) e5) ?_
      refine sd_b_wk [(0, .inr (.inr (some (this)))), (2, .inl (v2)), (3, .inr (.inr (some (317)))), (4, .inl (sd_w (v4 + (-1)))), (5, .inl (v5))] (List.forall_mem_cons.mpr ⟨rfl, (List.forall_mem_cons.mpr ⟨rfl, (List.forall_mem_cons.mpr ⟨rfl, (List.forall_mem_cons.mpr ⟨rfl, (List.forall_mem_cons.mpr ⟨rfl, (fun _ h0 => absurd h0 List.not_mem_nil)⟩)⟩)⟩)⟩)⟩) ?_
      exact t_X4_run_199 hd this h_this k6 k206 hk6 hk206 v2 (sd_w (v4 + (-1))) v5 r5.1 (sd_w (v4 + (-1))) r5.2 _ h
    · rw [if_neg c2] at h
      refine sd_b_cf (c := .ge) rfl (decide_eq_false c2) (by decide) ?_
      refine sd_b_go 2 (pc2 := 157) (lv2 := [(4, .inl (sd_w (v4 + (-1)))), (0, .inr (.inr (some (this)))), (2, .inl (v2)), (3, .inr (.inr (some (317)))), (5, .inl (v5)), (6, .inl (v6))]) (st2 := [.inr (.inr (some (this))), .inl (v6), .inl (sd_w (v4 + (-1))), .inr (.inr (some (this + 6)))]) rfl ?_
      refine sd_b_gr (k := 7) h_this rfl rfl rfl ?_
      refine sd_b_go 1 (pc2 := 162) (lv2 := [(4, .inl (sd_w (v4 + (-1)))), (0, .inr (.inr (some (this)))), (2, .inl (v2)), (3, .inr (.inr (some (317)))), (5, .inl (v5)), (6, .inl (v6))]) (st2 := [.inl (sd_w (v4 + (-1))), .inr (.inr (some (this + 6))), .inl (v6), .inl (sd_w (v4 + (-1))), .inr (.inr (some (this + 6)))]) rfl ?_
      obtain ⟨g6, h⟩ := sd_if h
      refine sd_b_al (sd_oa h_this (by decide) (off := 6) (List.mem_of_getElem? (i := 5) rfl)) g6 rfl ?_
      refine sd_b_go 1 (pc2 := 164) (lv2 := [(4, .inl (sd_w (v4 + (-1)))), (0, .inr (.inr (some (this)))), (2, .inl (v2)), (3, .inr (.inr (some (317)))), (5, .inl (v5)), (6, .inl (v6))]) (st2 := [.inr (.inr (some (this))), .inr (.inl (M (this + 6) (sd_w (v4 + (-1))).toNat)), .inl (v6), .inl (sd_w (v4 + (-1))), .inr (.inr (some (this + 6)))]) rfl ?_
      refine sd_b_gr (k := 7) h_this rfl rfl rfl ?_
      refine sd_b_go 3 (pc2 := 171) (lv2 := [(4, .inl (sd_w (v4 + (-1)))), (0, .inr (.inr (some (this)))), (2, .inl (v2)), (3, .inr (.inr (some (317)))), (5, .inl (v5)), (6, .inl (v6))]) (st2 := [.inl (sd_w ((sd_w (v4 + (-1))) + 1)), .inr (.inr (some (this + 6))), .inr (.inl (M (this + 6) (sd_w (v4 + (-1))).toNat)), .inl (v6), .inl (sd_w (v4 + (-1))), .inr (.inr (some (this + 6)))]) rfl ?_
      obtain ⟨g7, h⟩ := sd_if h
      refine sd_b_al (sd_oa h_this (by decide) (off := 6) (List.mem_of_getElem? (i := 5) rfl)) g7 rfl ?_
      obtain ⟨r8, e8, h⟩ := sd_bnd h
      refine sd_b_call [.inl (v6), .inr (.inl (M (this + 6) (sd_w (v4 + (-1))).toNat)), .inr (.inl (M (this + 6) (sd_w ((sd_w (v4 + (-1))) + 1)).toNat))] [.inl (sd_w (v4 + (-1))), .inr (.inr (some (this + 6)))] rfl rfl sd_i_X4_reckon rfl rfl (Nat.le_of_ble_eq_true rfl) rfl (m_X4_reckon (by omega) e8) ?_
      refine sd_b_go 1 (pc2 := 199) (lv2 := [(4, .inl (sd_w (v4 + (-1)))), (0, .inr (.inr (some (this)))), (2, .inl (v2)), (3, .inr (.inr (some (317)))), (5, .inl (v5)), (6, .inl (v6))]) (st2 := [.inr (.inl (r8.1)), .inl (sd_w (v4 + (-1))), .inr (.inr (some (this + 6)))]) rfl ?_
      refine sd_b_wk [(0, .inr (.inr (some (this)))), (2, .inl (v2)), (3, .inr (.inr (some (317)))), (4, .inl (sd_w (v4 + (-1)))), (5, .inl (v5))] (List.forall_mem_cons.mpr ⟨rfl, (List.forall_mem_cons.mpr ⟨rfl, (List.forall_mem_cons.mpr ⟨rfl, (List.forall_mem_cons.mpr ⟨rfl, (List.forall_mem_cons.mpr ⟨rfl, (fun _ h0 => absurd h0 List.not_mem_nil)⟩)⟩)⟩)⟩)⟩) ?_
      exact t_X4_run_199 hd this h_this k6 k206 hk6 hk206 v2 (sd_w (v4 + (-1))) v5 r8.1 (sd_w (v4 + (-1))) r8.2 _ h
def f_X4_run_101 (k6 : Int → Int → Int → sd_M → Option (Int × sd_M)) (k206 : Int → sd_M → Option (Int × sd_M)) (this : Nat) (v2 : Int) (v4 : Int) (v5 : Int) (v6 : Int) (M : sd_M) : Option (Int × sd_M) := if v6 = 14 then (if v4 < 0 then (f_X4_run_132 k6 k206 this v2 v4 v5 v6 M) else (if 0 ≤ v4 ∧ v4 < 64 then (if 0 ≤ v4 ∧ v4 < 64 then (f_X4_run_200 k6 k206 this v2 v4 v5 (sd_s M (this + 6) v4.toNat (sd_wl (1 - (M (this + 6) v4.toNat))))) else none) else none)) else (f_X4_run_132 k6 k206 this v2 v4 v5 v6 M)
set_option maxRecDepth 4000 in
theorem t_X4_run_101 {X : Nat → List sd_V → List sd_E → sd_A → Prop} {d : Nat} (hd : 1 ≤ d) (this : Nat) (h_this : sd_o this 4) (k6 : Int → Int → Int → sd_M → Option (Int × sd_M)) (k206 : Int → sd_M → Option (Int × sd_M)) (hk6 : ∀ (v2 : Int) (v4 : Int) (v5 : Int) (M : sd_M) (Rr : Int × sd_M), k6 v2 v4 v5 M = some Rr → sd_B X d sd_q_X4_run 6 [(0, .inr (.inr (some (this)))), (2, .inl (v2)), (3, .inr (.inr (some (317)))), (4, .inl (v4)), (5, .inl (v5))] [] M (some (.inr (.inl Rr.1)), sd_rp Rr.2, 0, 0)) (hk206 : ∀ (v4 : Int) (M : sd_M) (Rr : Int × sd_M), k206 v4 M = some Rr → sd_B X d sd_q_X4_run 206 [(0, .inr (.inr (some (this)))), (4, .inl (v4))] [] M (some (.inr (.inl Rr.1)), sd_rp Rr.2, 0, 0)) (v2 : Int) (v4 : Int) (v5 : Int) (v6 : Int) (M : sd_M) (Rr : Int × sd_M) (h : f_X4_run_101 k6 k206 this v2 v4 v5 v6 M = some Rr) : sd_B X d sd_q_X4_run 101 [(0, .inr (.inr (some (this)))), (2, .inl (v2)), (3, .inr (.inr (some (317)))), (4, .inl (v4)), (5, .inl (v5)), (6, .inl (v6))] [] M (some (.inr (.inl Rr.1)), sd_rp Rr.2, 0, 0) := by
  unfold f_X4_run_101 at h
  refine sd_b_go 2 (pc2 := 105) (lv2 := [(0, .inr (.inr (some (this)))), (2, .inl (v2)), (3, .inr (.inr (some (317)))), (4, .inl (v4)), (5, .inl (v5)), (6, .inl (v6))]) (st2 := [.inl (14), .inl (v6)]) rfl ?_
  by_cases c1 : v6 = 14
  · rw [if_pos c1] at h
    refine sd_b_cf (c := .ne) rfl (decide_eq_false (not_not_intro c1)) (by decide) ?_
    refine sd_b_go 1 (pc2 := 110) (lv2 := [(0, .inr (.inr (some (this)))), (2, .inl (v2)), (3, .inr (.inr (some (317)))), (4, .inl (v4)), (5, .inl (v5)), (6, .inl (v6))]) (st2 := [.inl (v4)]) rfl ?_
    by_cases c2 : v4 < 0
    · rw [if_pos c2] at h
      refine sd_b_zt (c := .lt) (tgt := 132) rfl (decide_eq_true c2) (by decide) ?_
      refine sd_b_wk [(0, .inr (.inr (some (this)))), (2, .inl (v2)), (3, .inr (.inr (some (317)))), (4, .inl (v4)), (5, .inl (v5)), (6, .inl (v6))] (List.forall_mem_cons.mpr ⟨rfl, (List.forall_mem_cons.mpr ⟨rfl, (List.forall_mem_cons.mpr ⟨rfl, (List.forall_mem_cons.mpr ⟨rfl, (List.forall_mem_cons.mpr ⟨rfl, (List.forall_mem_cons.mpr ⟨rfl, (fun _ h0 => absurd h0 List.not_mem_nil)⟩)⟩)⟩)⟩)⟩)⟩) ?_
      exact t_X4_run_132 hd this h_this k6 k206 hk6 hk206 v2 v4 v5 v6 M _ h
    · rw [if_neg c2] at h
      refine sd_b_zf (c := .lt) rfl (decide_eq_false c2) (by decide) ?_
      refine sd_b_go 1 (pc2 := 114) (lv2 := [(0, .inr (.inr (some (this)))), (2, .inl (v2)), (3, .inr (.inr (some (317)))), (4, .inl (v4)), (5, .inl (v5)), (6, .inl (v6))]) (st2 := [.inr (.inr (some (this)))]) rfl ?_
      refine sd_b_gr (k := 7) h_this rfl rfl rfl ?_
      refine sd_b_go 3 (pc2 := 121) (lv2 := [(0, .inr (.inr (some (this)))), (2, .inl (v2)), (3, .inr (.inr (some (317)))), (4, .inl (v4)), (5, .inl (v5)), (6, .inl (v6))]) (st2 := [.inr (.inr (some (this))), .inr (.inl (1)), .inl (v4), .inr (.inr (some (this + 6)))]) rfl ?_
      refine sd_b_gr (k := 7) h_this rfl rfl rfl ?_
      refine sd_b_go 1 (pc2 := 126) (lv2 := [(0, .inr (.inr (some (this)))), (2, .inl (v2)), (3, .inr (.inr (some (317)))), (4, .inl (v4)), (5, .inl (v5)), (6, .inl (v6))]) (st2 := [.inl (v4), .inr (.inr (some (this + 6))), .inr (.inl (1)), .inl (v4), .inr (.inr (some (this + 6)))]) rfl ?_
      obtain ⟨g3, h⟩ := sd_if h
      refine sd_b_al (sd_oa h_this (by decide) (off := 6) (List.mem_of_getElem? (i := 5) rfl)) g3 rfl ?_
      refine sd_b_go 1 (pc2 := 128) (lv2 := [(0, .inr (.inr (some (this)))), (2, .inl (v2)), (3, .inr (.inr (some (317)))), (4, .inl (v4)), (5, .inl (v5)), (6, .inl (v6))]) (st2 := [.inr (.inl (sd_wl (1 - (M (this + 6) v4.toNat)))), .inl (v4), .inr (.inr (some (this + 6)))]) rfl ?_
      obtain ⟨g4, h⟩ := sd_if h
      refine sd_b_sl (sd_oa h_this (by decide) (off := 6) (List.mem_of_getElem? (i := 5) rfl)) g4 rfl ?_
      refine sd_b_go 1 (pc2 := 200) (lv2 := [(0, .inr (.inr (some (this)))), (2, .inl (v2)), (3, .inr (.inr (some (317)))), (4, .inl (v4)), (5, .inl (v5)), (6, .inl (v6))]) (st2 := []) rfl ?_
      refine sd_b_wk [(0, .inr (.inr (some (this)))), (2, .inl (v2)), (3, .inr (.inr (some (317)))), (4, .inl (v4)), (5, .inl (v5))] (List.forall_mem_cons.mpr ⟨rfl, (List.forall_mem_cons.mpr ⟨rfl, (List.forall_mem_cons.mpr ⟨rfl, (List.forall_mem_cons.mpr ⟨rfl, (List.forall_mem_cons.mpr ⟨rfl, (fun _ h0 => absurd h0 List.not_mem_nil)⟩)⟩)⟩)⟩)⟩) ?_
      exact t_X4_run_200 hd this h_this k6 k206 hk6 hk206 v2 v4 v5 (sd_s M (this + 6) v4.toNat (sd_wl (1 - (M (this + 6) v4.toNat)))) _ h
  · rw [if_neg c1] at h
    refine sd_b_ct (c := .ne) (tgt := 132) rfl (decide_eq_true c1) (by decide) ?_
    refine sd_b_wk [(0, .inr (.inr (some (this)))), (2, .inl (v2)), (3, .inr (.inr (some (317)))), (4, .inl (v4)), (5, .inl (v5)), (6, .inl (v6))] (List.forall_mem_cons.mpr ⟨rfl, (List.forall_mem_cons.mpr ⟨rfl, (List.forall_mem_cons.mpr ⟨rfl, (List.forall_mem_cons.mpr ⟨rfl, (List.forall_mem_cons.mpr ⟨rfl, (List.forall_mem_cons.mpr ⟨rfl, (fun _ h0 => absurd h0 List.not_mem_nil)⟩)⟩)⟩)⟩)⟩)⟩) ?_
    exact t_X4_run_132 hd this h_this k6 k206 hk6 hk206 v2 v4 v5 v6 M _ h
def f_X4_run_64 (k6 : Int → Int → Int → sd_M → Option (Int × sd_M)) (k206 : Int → sd_M → Option (Int × sd_M)) (this : Nat) (v2 : Int) (v4 : Int) (v5 : Int) (v6 : Int) (M : sd_M) : Option (Int × sd_M) := if v6 = 1 then (if 64 ≤ (sd_w (v4 + 1)) then (f_X4_run_101 k6 k206 this v2 v4 v5 v6 M) else (if 0 ≤ v5 ∧ v5 < 400 then (if 0 ≤ (M (this + 5) v5.toNat) ∧ (M (this + 5) v5.toNat) < 11 then (if 0 ≤ (sd_w (v4 + 1)) ∧ (sd_w (v4 + 1)) < 64 then (f_X4_run_200 k6 k206 this v2 (sd_w (v4 + 1)) v5 (sd_s M (this + 6) (sd_w (v4 + 1)).toNat (M 317 (M (this + 5) v5.toNat).toNat))) else none) else none) else none)) else (f_X4_run_101 k6 k206 this v2 v4 v5 v6 M)
set_option maxRecDepth 4000 in
theorem t_X4_run_64 {X : Nat → List sd_V → List sd_E → sd_A → Prop} {d : Nat} (hd : 1 ≤ d) (this : Nat) (h_this : sd_o this 4) (k6 : Int → Int → Int → sd_M → Option (Int × sd_M)) (k206 : Int → sd_M → Option (Int × sd_M)) (hk6 : ∀ (v2 : Int) (v4 : Int) (v5 : Int) (M : sd_M) (Rr : Int × sd_M), k6 v2 v4 v5 M = some Rr → sd_B X d sd_q_X4_run 6 [(0, .inr (.inr (some (this)))), (2, .inl (v2)), (3, .inr (.inr (some (317)))), (4, .inl (v4)), (5, .inl (v5))] [] M (some (.inr (.inl Rr.1)), sd_rp Rr.2, 0, 0)) (hk206 : ∀ (v4 : Int) (M : sd_M) (Rr : Int × sd_M), k206 v4 M = some Rr → sd_B X d sd_q_X4_run 206 [(0, .inr (.inr (some (this)))), (4, .inl (v4))] [] M (some (.inr (.inl Rr.1)), sd_rp Rr.2, 0, 0)) (v2 : Int) (v4 : Int) (v5 : Int) (v6 : Int) (M : sd_M) (Rr : Int × sd_M) (h : f_X4_run_64 k6 k206 this v2 v4 v5 v6 M = some Rr) : sd_B X d sd_q_X4_run 64 [(0, .inr (.inr (some (this)))), (2, .inl (v2)), (3, .inr (.inr (some (317)))), (4, .inl (v4)), (5, .inl (v5)), (6, .inl (v6))] [] M (some (.inr (.inl Rr.1)), sd_rp Rr.2, 0, 0) := by
  unfold f_X4_run_64 at h
  refine sd_b_go 2 (pc2 := 67) (lv2 := [(0, .inr (.inr (some (this)))), (2, .inl (v2)), (3, .inr (.inr (some (317)))), (4, .inl (v4)), (5, .inl (v5)), (6, .inl (v6))]) (st2 := [.inl (1), .inl (v6)]) rfl ?_
  by_cases c1 : v6 = 1
  · rw [if_pos c1] at h
    refine sd_b_cf (c := .ne) rfl (decide_eq_false (not_not_intro c1)) (by decide) ?_
    refine sd_b_go 4 (pc2 := 76) (lv2 := [(0, .inr (.inr (some (this)))), (2, .inl (v2)), (3, .inr (.inr (some (317)))), (4, .inl (v4)), (5, .inl (v5)), (6, .inl (v6))]) (st2 := [.inl (64), .inl (sd_w (v4 + 1))]) rfl ?_
    by_cases c2 : 64 ≤ (sd_w (v4 + 1))
    · rw [if_pos c2] at h
      refine sd_b_ct (c := .ge) (tgt := 101) rfl (decide_eq_true c2) (by decide) ?_
      refine sd_b_wk [(0, .inr (.inr (some (this)))), (2, .inl (v2)), (3, .inr (.inr (some (317)))), (4, .inl (v4)), (5, .inl (v5)), (6, .inl (v6))] (List.forall_mem_cons.mpr ⟨rfl, (List.forall_mem_cons.mpr ⟨rfl, (List.forall_mem_cons.mpr ⟨rfl, (List.forall_mem_cons.mpr ⟨rfl, (List.forall_mem_cons.mpr ⟨rfl, (List.forall_mem_cons.mpr ⟨rfl, (fun _ h0 => absurd h0 List.not_mem_nil)⟩)⟩)⟩)⟩)⟩)⟩) ?_
      exact t_X4_run_101 hd this h_this k6 k206 hk6 hk206 v2 v4 v5 v6 M _ h
    · rw [if_neg c2] at h
      refine sd_b_cf (c := .ge) rfl (decide_eq_false c2) (by decide) ?_
      refine sd_b_go 2 (pc2 := 83) (lv2 := [(4, .inl (sd_w (v4 + 1))), (0, .inr (.inr (some (this)))), (2, .inl (v2)), (3, .inr (.inr (some (317)))), (5, .inl (v5)), (6, .inl (v6))]) (st2 := [.inr (.inr (some (this)))]) rfl ?_
      refine sd_b_gr (k := 7) h_this rfl rfl rfl ?_
      refine sd_b_go 3 (pc2 := 90) (lv2 := [(4, .inl (sd_w (v4 + 1))), (0, .inr (.inr (some (this)))), (2, .inl (v2)), (3, .inr (.inr (some (317)))), (5, .inl (v5)), (6, .inl (v6))]) (st2 := [.inr (.inr (some (this))), .inr (.inr (some (317))), .inl (sd_w (v4 + 1)), .inr (.inr (some (this + 6)))]) rfl ?_
      refine sd_b_gr (k := 6) h_this rfl rfl rfl ?_
      refine sd_b_go 1 (pc2 := 95) (lv2 := [(4, .inl (sd_w (v4 + 1))), (0, .inr (.inr (some (this)))), (2, .inl (v2)), (3, .inr (.inr (some (317)))), (5, .inl (v5)), (6, .inl (v6))]) (st2 := [.inl (v5), .inr (.inr (some (this + 5))), .inr (.inr (some (317))), .inl (sd_w (v4 + 1)), .inr (.inr (some (this + 6)))]) rfl ?_
      obtain ⟨g3, h⟩ := sd_if h
      refine sd_b_ai (sd_oa h_this (by decide) (off := 5) (List.mem_of_getElem? (i := 4) rfl)) g3 rfl ?_
      obtain ⟨g4, h⟩ := sd_if h
      refine sd_b_al (sd_oa sd_o_316 (by decide) (off := 1) (List.mem_of_getElem? (i := 0) rfl)) g4 rfl ?_
      obtain ⟨g5, h⟩ := sd_if h
      refine sd_b_sl (sd_oa h_this (by decide) (off := 6) (List.mem_of_getElem? (i := 5) rfl)) g5 rfl ?_
      refine sd_b_go 1 (pc2 := 200) (lv2 := [(4, .inl (sd_w (v4 + 1))), (0, .inr (.inr (some (this)))), (2, .inl (v2)), (3, .inr (.inr (some (317)))), (5, .inl (v5)), (6, .inl (v6))]) (st2 := []) rfl ?_
      refine sd_b_wk [(0, .inr (.inr (some (this)))), (2, .inl (v2)), (3, .inr (.inr (some (317)))), (4, .inl (sd_w (v4 + 1))), (5, .inl (v5))] (List.forall_mem_cons.mpr ⟨rfl, (List.forall_mem_cons.mpr ⟨rfl, (List.forall_mem_cons.mpr ⟨rfl, (List.forall_mem_cons.mpr ⟨rfl, (List.forall_mem_cons.mpr ⟨rfl, (fun _ h0 => absurd h0 List.not_mem_nil)⟩)⟩)⟩)⟩)⟩) ?_
      exact t_X4_run_200 hd this h_this k6 k206 hk6 hk206 v2 (sd_w (v4 + 1)) v5 (sd_s M (this + 6) (sd_w (v4 + 1)).toNat (M 317 (M (this + 5) v5.toNat).toNat)) _ h
  · rw [if_neg c1] at h
    refine sd_b_ct (c := .ne) (tgt := 101) rfl (decide_eq_true c1) (by decide) ?_
    refine sd_b_wk [(0, .inr (.inr (some (this)))), (2, .inl (v2)), (3, .inr (.inr (some (317)))), (4, .inl (v4)), (5, .inl (v5)), (6, .inl (v6))] (List.forall_mem_cons.mpr ⟨rfl, (List.forall_mem_cons.mpr ⟨rfl, (List.forall_mem_cons.mpr ⟨rfl, (List.forall_mem_cons.mpr ⟨rfl, (List.forall_mem_cons.mpr ⟨rfl, (List.forall_mem_cons.mpr ⟨rfl, (fun _ h0 => absurd h0 List.not_mem_nil)⟩)⟩)⟩)⟩)⟩)⟩) ?_
    exact t_X4_run_101 hd this h_this k6 k206 hk6 hk206 v2 v4 v5 v6 M _ h
def f_X4_run_6 (k206 : Int → sd_M → Option (Int × sd_M)) (this : Nat) : Nat → Int → Int → Int → sd_M → Option (Int × sd_M)
  | 0, _, _, _, _ => none
  | n + 1, v2, v4, v5, M => if v2 ≤ v5 then (k206 v4 M) else (if 400 ≤ v5 then (k206 v4 M) else (if 0 ≤ v5 ∧ v5 < 400 then (if (M (this + 4) v5.toNat) = 0 then (if 64 ≤ (sd_w (v4 + 1)) then (f_X4_run_64 (f_X4_run_6 k206 this n) k206 this v2 v4 v5 (M (this + 4) v5.toNat) M) else (if 0 ≤ v5 ∧ v5 < 400 then (if 0 ≤ (sd_w (v4 + 1)) ∧ (sd_w (v4 + 1)) < 64 then (f_X4_run_200 (f_X4_run_6 k206 this n) k206 this v2 (sd_w (v4 + 1)) v5 (sd_s M (this + 6) (sd_w (v4 + 1)).toNat (M (this + 5) v5.toNat))) else none) else none)) else (f_X4_run_64 (f_X4_run_6 k206 this n) k206 this v2 v4 v5 (M (this + 4) v5.toNat) M)) else none))
set_option maxRecDepth 4000 in
theorem t_X4_run_6 {X : Nat → List sd_V → List sd_E → sd_A → Prop} {d : Nat} (hd : 1 ≤ d) (this : Nat) (h_this : sd_o this 4) (k206 : Int → sd_M → Option (Int × sd_M)) (hk206 : ∀ (v4 : Int) (M : sd_M) (Rr : Int × sd_M), k206 v4 M = some Rr → sd_B X d sd_q_X4_run 206 [(0, .inr (.inr (some (this)))), (4, .inl (v4))] [] M (some (.inr (.inl Rr.1)), sd_rp Rr.2, 0, 0)) : ∀ (n : Nat) (v2 : Int) (v4 : Int) (v5 : Int) (M : sd_M) (Rr : Int × sd_M), f_X4_run_6 k206 this n v2 v4 v5 M = some Rr → sd_B X d sd_q_X4_run 6 [(0, .inr (.inr (some (this)))), (2, .inl (v2)), (3, .inr (.inr (some (317)))), (4, .inl (v4)), (5, .inl (v5))] [] M (some (.inr (.inl Rr.1)), sd_rp Rr.2, 0, 0) := by
  intro n
  induction n with
  | zero => intro v2 v4 v5 M Rr h; cases h
  | succ n ih =>
    intro v2 v4 v5 M Rr h
    rw [f_X4_run_6] at h
    refine sd_b_go 2 (pc2 := 9) (lv2 := [(0, .inr (.inr (some (this)))), (2, .inl (v2)), (3, .inr (.inr (some (317)))), (4, .inl (v4)), (5, .inl (v5))]) (st2 := [.inl (v2), .inl (v5)]) rfl ?_
    by_cases c1 : v2 ≤ v5
    · rw [if_pos c1] at h
      refine sd_b_ct (c := .ge) (tgt := 206) rfl (decide_eq_true c1) (by decide) ?_
      refine sd_b_wk [(0, .inr (.inr (some (this)))), (4, .inl (v4))] (List.forall_mem_cons.mpr ⟨rfl, (List.forall_mem_cons.mpr ⟨rfl, (fun _ h0 => absurd h0 List.not_mem_nil)⟩)⟩) ?_
      exact hk206 v4 M _ h
    · rw [if_neg c1] at h
      refine sd_b_cf (c := .ge) rfl (decide_eq_false c1) (by decide) ?_
      refine sd_b_go 2 (pc2 := 17) (lv2 := [(0, .inr (.inr (some (this)))), (2, .inl (v2)), (3, .inr (.inr (some (317)))), (4, .inl (v4)), (5, .inl (v5))]) (st2 := [.inl (400), .inl (v5)]) rfl ?_
      by_cases c2 : 400 ≤ v5
      · rw [if_pos c2] at h
        refine sd_b_ct (c := .ge) (tgt := 206) rfl (decide_eq_true c2) (by decide) ?_
        refine sd_b_wk [(0, .inr (.inr (some (this)))), (4, .inl (v4))] (List.forall_mem_cons.mpr ⟨rfl, (List.forall_mem_cons.mpr ⟨rfl, (fun _ h0 => absurd h0 List.not_mem_nil)⟩)⟩) ?_
        exact hk206 v4 M _ h
      · rw [if_neg c2] at h
        refine sd_b_cf (c := .ge) rfl (decide_eq_false c2) (by decide) ?_
        refine sd_b_go 1 (pc2 := 21) (lv2 := [(0, .inr (.inr (some (this)))), (2, .inl (v2)), (3, .inr (.inr (some (317)))), (4, .inl (v4)), (5, .inl (v5))]) (st2 := [.inr (.inr (some (this)))]) rfl ?_
        refine sd_b_gr (k := 5) h_this rfl rfl rfl ?_
        refine sd_b_go 1 (pc2 := 26) (lv2 := [(0, .inr (.inr (some (this)))), (2, .inl (v2)), (3, .inr (.inr (some (317)))), (4, .inl (v4)), (5, .inl (v5))]) (st2 := [.inl (v5), .inr (.inr (some (this + 4)))]) rfl ?_
        obtain ⟨g3, h⟩ := sd_if h
        refine sd_b_ai (sd_oa h_this (by decide) (off := 4) (List.mem_of_getElem? (i := 3) rfl)) g3 rfl ?_
        refine sd_b_go 2 (pc2 := 31) (lv2 := [(6, .inl (M (this + 4) v5.toNat)), (0, .inr (.inr (some (this)))), (2, .inl (v2)), (3, .inr (.inr (some (317)))), (4, .inl (v4)), (5, .inl (v5))]) (st2 := [.inl (M (this + 4) v5.toNat)]) rfl ?_
        by_cases c4 : (M (this + 4) v5.toNat) = 0
        · rw [if_pos c4] at h
          refine sd_b_zf (c := .ne) rfl (decide_eq_false (not_not_intro c4)) (by decide) ?_
          refine sd_b_go 4 (pc2 := 40) (lv2 := [(6, .inl (M (this + 4) v5.toNat)), (0, .inr (.inr (some (this)))), (2, .inl (v2)), (3, .inr (.inr (some (317)))), (4, .inl (v4)), (5, .inl (v5))]) (st2 := [.inl (64), .inl (sd_w (v4 + 1))]) rfl ?_
          by_cases c5 : 64 ≤ (sd_w (v4 + 1))
          · rw [if_pos c5] at h
            refine sd_b_ct (c := .ge) (tgt := 64) rfl (decide_eq_true c5) (by decide) ?_
            refine sd_b_wk [(0, .inr (.inr (some (this)))), (2, .inl (v2)), (3, .inr (.inr (some (317)))), (4, .inl (v4)), (5, .inl (v5)), (6, .inl (M (this + 4) v5.toNat))] (List.forall_mem_cons.mpr ⟨rfl, (List.forall_mem_cons.mpr ⟨rfl, (List.forall_mem_cons.mpr ⟨rfl, (List.forall_mem_cons.mpr ⟨rfl, (List.forall_mem_cons.mpr ⟨rfl, (List.forall_mem_cons.mpr ⟨rfl, (fun _ h0 => absurd h0 List.not_mem_nil)⟩)⟩)⟩)⟩)⟩)⟩) ?_
            exact t_X4_run_64 hd this h_this (f_X4_run_6 k206 this n) k206 ih hk206 v2 v4 v5 (M (this + 4) v5.toNat) M _ h
          · rw [if_neg c5] at h
            refine sd_b_cf (c := .ge) rfl (decide_eq_false c5) (by decide) ?_
            refine sd_b_go 2 (pc2 := 47) (lv2 := [(4, .inl (sd_w (v4 + 1))), (6, .inl (M (this + 4) v5.toNat)), (0, .inr (.inr (some (this)))), (2, .inl (v2)), (3, .inr (.inr (some (317)))), (5, .inl (v5))]) (st2 := [.inr (.inr (some (this)))]) rfl ?_
            refine sd_b_gr (k := 7) h_this rfl rfl rfl ?_
            refine sd_b_go 2 (pc2 := 53) (lv2 := [(4, .inl (sd_w (v4 + 1))), (6, .inl (M (this + 4) v5.toNat)), (0, .inr (.inr (some (this)))), (2, .inl (v2)), (3, .inr (.inr (some (317)))), (5, .inl (v5))]) (st2 := [.inr (.inr (some (this))), .inl (sd_w (v4 + 1)), .inr (.inr (some (this + 6)))]) rfl ?_
            refine sd_b_gr (k := 6) h_this rfl rfl rfl ?_
            refine sd_b_go 1 (pc2 := 58) (lv2 := [(4, .inl (sd_w (v4 + 1))), (6, .inl (M (this + 4) v5.toNat)), (0, .inr (.inr (some (this)))), (2, .inl (v2)), (3, .inr (.inr (some (317)))), (5, .inl (v5))]) (st2 := [.inl (v5), .inr (.inr (some (this + 5))), .inl (sd_w (v4 + 1)), .inr (.inr (some (this + 6)))]) rfl ?_
            obtain ⟨g6, h⟩ := sd_if h
            refine sd_b_ai (sd_oa h_this (by decide) (off := 5) (List.mem_of_getElem? (i := 4) rfl)) g6 rfl ?_
            refine sd_b_go 1 (pc2 := 60) (lv2 := [(4, .inl (sd_w (v4 + 1))), (6, .inl (M (this + 4) v5.toNat)), (0, .inr (.inr (some (this)))), (2, .inl (v2)), (3, .inr (.inr (some (317)))), (5, .inl (v5))]) (st2 := [.inr (.inl (M (this + 5) v5.toNat)), .inl (sd_w (v4 + 1)), .inr (.inr (some (this + 6)))]) rfl ?_
            obtain ⟨g7, h⟩ := sd_if h
            refine sd_b_sl (sd_oa h_this (by decide) (off := 6) (List.mem_of_getElem? (i := 5) rfl)) g7 rfl ?_
            refine sd_b_go 1 (pc2 := 200) (lv2 := [(4, .inl (sd_w (v4 + 1))), (6, .inl (M (this + 4) v5.toNat)), (0, .inr (.inr (some (this)))), (2, .inl (v2)), (3, .inr (.inr (some (317)))), (5, .inl (v5))]) (st2 := []) rfl ?_
            refine sd_b_wk [(0, .inr (.inr (some (this)))), (2, .inl (v2)), (3, .inr (.inr (some (317)))), (4, .inl (sd_w (v4 + 1))), (5, .inl (v5))] (List.forall_mem_cons.mpr ⟨rfl, (List.forall_mem_cons.mpr ⟨rfl, (List.forall_mem_cons.mpr ⟨rfl, (List.forall_mem_cons.mpr ⟨rfl, (List.forall_mem_cons.mpr ⟨rfl, (fun _ h0 => absurd h0 List.not_mem_nil)⟩)⟩)⟩)⟩)⟩) ?_
            exact t_X4_run_200 hd this h_this (f_X4_run_6 k206 this n) k206 ih hk206 v2 (sd_w (v4 + 1)) v5 (sd_s M (this + 6) (sd_w (v4 + 1)).toNat (M (this + 5) v5.toNat)) _ h
        · rw [if_neg c4] at h
          refine sd_b_zt (c := .ne) (tgt := 64) rfl (decide_eq_true c4) (by decide) ?_
          refine sd_b_wk [(0, .inr (.inr (some (this)))), (2, .inl (v2)), (3, .inr (.inr (some (317)))), (4, .inl (v4)), (5, .inl (v5)), (6, .inl (M (this + 4) v5.toNat))] (List.forall_mem_cons.mpr ⟨rfl, (List.forall_mem_cons.mpr ⟨rfl, (List.forall_mem_cons.mpr ⟨rfl, (List.forall_mem_cons.mpr ⟨rfl, (List.forall_mem_cons.mpr ⟨rfl, (List.forall_mem_cons.mpr ⟨rfl, (fun _ h0 => absurd h0 List.not_mem_nil)⟩)⟩)⟩)⟩)⟩)⟩) ?_
          exact t_X4_run_64 hd this h_this (f_X4_run_6 k206 this n) k206 ih hk206 v2 v4 v5 (M (this + 4) v5.toNat) M _ h
def f_X4_run_206 (this : Nat) (v4 : Int) (M : sd_M) : Option (Int × sd_M) := if v4 < 0 then (some (0, M)) else (if 0 ≤ v4 ∧ v4 < 64 then (some (M (this + 6) v4.toNat, M)) else none)
set_option maxRecDepth 4000 in
theorem t_X4_run_206 {X : Nat → List sd_V → List sd_E → sd_A → Prop} {d : Nat} (hd : 1 ≤ d) (this : Nat) (h_this : sd_o this 4) (v4 : Int) (M : sd_M) (Rr : Int × sd_M) (h : f_X4_run_206 this v4 M = some Rr) : sd_B X d sd_q_X4_run 206 [(0, .inr (.inr (some (this)))), (4, .inl (v4))] [] M (some (.inr (.inl Rr.1)), sd_rp Rr.2, 0, 0) := by
  unfold f_X4_run_206 at h
  refine sd_b_go 1 (pc2 := 208) (lv2 := [(0, .inr (.inr (some (this)))), (4, .inl (v4))]) (st2 := [.inl (v4)]) rfl ?_
  by_cases c1 : v4 < 0
  · rw [if_pos c1] at h
    refine sd_b_zt (c := .lt) (tgt := 221) rfl (decide_eq_true c1) (by decide) ?_
    refine sd_b_go 1 (pc2 := 222) (lv2 := [(0, .inr (.inr (some (this)))), (4, .inl (v4))]) (st2 := [.inr (.inl (0))]) rfl ?_
    cases h
    exact sd_b_rt rfl rfl rfl
  · rw [if_neg c1] at h
    refine sd_b_zf (c := .lt) rfl (decide_eq_false c1) (by decide) ?_
    refine sd_b_go 1 (pc2 := 212) (lv2 := [(0, .inr (.inr (some (this)))), (4, .inl (v4))]) (st2 := [.inr (.inr (some (this)))]) rfl ?_
    refine sd_b_gr (k := 7) h_this rfl rfl rfl ?_
    refine sd_b_go 1 (pc2 := 217) (lv2 := [(0, .inr (.inr (some (this)))), (4, .inl (v4))]) (st2 := [.inl (v4), .inr (.inr (some (this + 6)))]) rfl ?_
    obtain ⟨g2, h⟩ := sd_if h
    refine sd_b_al (sd_oa h_this (by decide) (off := 6) (List.mem_of_getElem? (i := 5) rfl)) g2 rfl ?_
    refine sd_b_go 1 (pc2 := 222) (lv2 := [(0, .inr (.inr (some (this)))), (4, .inl (v4))]) (st2 := [.inr (.inl (M (this + 6) v4.toNat))]) rfl ?_
    cases h
    exact sd_b_rt rfl rfl rfl
def f_X4_run (this : Nat) (p1 : Int) (p2 : Int) (M : sd_M) : Option (Int × sd_M) := f_X4_run_6 (f_X4_run_206 this) this 4000 p2 ((-1)) p1 M
set_option maxRecDepth 4000 in
theorem t_X4_run {X : Nat → List sd_V → List sd_E → sd_A → Prop} {d : Nat} (hd : 1 ≤ d) (this : Nat) (h_this : sd_o this 4) (p1 : Int) (p2 : Int) (M : sd_M) (Rr : Int × sd_M) (h : f_X4_run this p1 p2 M = some Rr) : sd_B X d sd_q_X4_run 0 [(0, .inr (.inr (some (this)))), (1, .inl (p1)), (2, .inl (p2)), (3, .inr (.inr (some (317))))] [] M (some (.inr (.inl Rr.1)), sd_rp Rr.2, 0, 0) := by
  unfold f_X4_run at h
  refine sd_b_go 4 (pc2 := 6) (lv2 := [(5, .inl (p1)), (4, .inl ((-1))), (0, .inr (.inr (some (this)))), (1, .inl (p1)), (2, .inl (p2)), (3, .inr (.inr (some (317))))]) (st2 := []) rfl ?_
  refine sd_b_wk [(0, .inr (.inr (some (this)))), (2, .inl (p2)), (3, .inr (.inr (some (317)))), (4, .inl ((-1))), (5, .inl (p1))] (List.forall_mem_cons.mpr ⟨rfl, (List.forall_mem_cons.mpr ⟨rfl, (List.forall_mem_cons.mpr ⟨rfl, (List.forall_mem_cons.mpr ⟨rfl, (List.forall_mem_cons.mpr ⟨rfl, (fun _ h0 => absurd h0 List.not_mem_nil)⟩)⟩)⟩)⟩)⟩) ?_
  exact t_X4_run_6 hd this h_this (f_X4_run_206 this) (t_X4_run_206 hd this h_this) 4000 p2 ((-1)) p1 M _ h
theorem m_X4_run {X : Nat → List sd_V → List sd_E → sd_A → Prop} {d : Nat} (hd : 2 ≤ d) {this : Nat} (h_this : sd_o this 4) {p1 : Int} {p2 : Int} {M : sd_M} {Rr : Int × sd_M} (h : f_X4_run this p1 p2 M = some Rr) : sd_Cal X d 37 [.inr (.inr (some (this))), .inl (p1), .inl (p2), .inr (.inr (some (317)))] (sd_rp M) (some (.inr (.inl Rr.1)), sd_rp Rr.2, 0, 0) := by
  obtain ⟨d, rfl⟩ : ∃ d2, d = d2 + 1 := ⟨d - 1, by omega⟩
  exact sd_cal_of sd_i_X4_run (Nat.le_of_ble_eq_true rfl) (t_X4_run (by omega) this h_this p1 p2 M Rr h)
-- X5_readsValue
def sd_q_X5_readsValue : sd_MI := (yX5_readsValue, cX5_readsValue, 5, (some .boolean), 5, 2, sd_t_X5_readsValue)
set_option maxRecDepth 4000 in
theorem sd_i_X5_readsValue : sd_mL[46]? = some sd_q_X5_readsValue := rfl
def f_X5_readsValue_116 (into : Nat) (s0 : Int) (s1 : Int) (M : sd_M) : Option (Int × sd_M) := (f_X4_add into s1 s0 M).bind fun r1 => (f_X7_step r1.2).bind fun r2 => some (1, r2.2)
set_option maxRecDepth 4000 in
theorem t_X5_readsValue_116 {X : Nat → List sd_V → List sd_E → sd_A → Prop} {d : Nat} (hd : 1 ≤ d) (into : Nat) (h_into : sd_o into 4) (s0 : Int) (s1 : Int) (M : sd_M) (Rr : Int × sd_M) (h : f_X5_readsValue_116 into s0 s1 M = some Rr) : sd_B X d sd_q_X5_readsValue 116 [(1, .inr (.inr (some (1))))] [.inl (s0), .inl (s1), .inr (.inr (some (into)))] M (some (.inl Rr.1), sd_rp Rr.2, 0, 0) := by
  unfold f_X5_readsValue_116 at h
  obtain ⟨r1, e1, h⟩ := sd_bnd h
  refine sd_b_call [.inr (.inr (some (into))), .inl (s1), .inl (s0)] [] rfl rfl sd_i_X4_add rfl rfl (Nat.le_of_ble_eq_true rfl) (sd_rc_v h_into) (m_X4_add (by omega) h_into e1) ?_
  refine sd_b_go 1 (pc2 := 120) (lv2 := [(1, .inr (.inr (some (1))))]) (st2 := [.inr (.inr (some (1)))]) rfl ?_
  obtain ⟨r2, e2, h⟩ := sd_bnd h
  refine sd_b_call [.inr (.inr (some (1)))] [] rfl rfl sd_i_X7_step rfl rfl (Nat.le_of_ble_eq_true rfl) (sd_rc_v sd_o_1) (m_X7_step (by omega) e2) ?_
  refine sd_b_go 1 (pc2 := 124) (lv2 := [(1, .inr (.inr (some (1))))]) (st2 := [.inl (1)]) rfl ?_
  cases h
  exact sd_b_rt rfl rfl rfl
def f_X5_readsValue_99 (into : Nat) (v3 : Int) (v4 : Int) (s0 : Int) (M : sd_M) : Option (Int × sd_M) := if v4 = 0 then (f_X5_readsValue_116 into (sd_w (v3 - 600)) s0 M) else ((f_X7_value M).bind fun r2 => f_X5_readsValue_116 into r2.1 s0 r2.2)
set_option maxRecDepth 4000 in
theorem t_X5_readsValue_99 {X : Nat → List sd_V → List sd_E → sd_A → Prop} {d : Nat} (hd : 1 ≤ d) (into : Nat) (h_into : sd_o into 4) (v3 : Int) (v4 : Int) (s0 : Int) (M : sd_M) (Rr : Int × sd_M) (h : f_X5_readsValue_99 into v3 v4 s0 M = some Rr) : sd_B X d sd_q_X5_readsValue 99 [(1, .inr (.inr (some (1)))), (3, .inl (v3)), (4, .inl (v4))] [.inl (s0), .inr (.inr (some (into)))] M (some (.inl Rr.1), sd_rp Rr.2, 0, 0) := by
  unfold f_X5_readsValue_99 at h
  refine sd_b_go 1 (pc2 := 101) (lv2 := [(1, .inr (.inr (some (1)))), (3, .inl (v3)), (4, .inl (v4))]) (st2 := [.inl (v4), .inl (s0), .inr (.inr (some (into)))]) rfl ?_
  by_cases c1 : v4 = 0
  · rw [if_pos c1] at h
    refine sd_b_zt (c := .eq) (tgt := 111) rfl (decide_eq_true c1) (by decide) ?_
    refine sd_b_go 3 (pc2 := 116) (lv2 := [(1, .inr (.inr (some (1)))), (3, .inl (v3)), (4, .inl (v4))]) (st2 := [.inl (sd_w (v3 - 600)), .inl (s0), .inr (.inr (some (into)))]) rfl ?_
    refine sd_b_wk [(1, .inr (.inr (some (1))))] (List.forall_mem_cons.mpr ⟨rfl, (fun _ h0 => absurd h0 List.not_mem_nil)⟩) ?_
    exact t_X5_readsValue_116 hd into h_into (sd_w (v3 - 600)) s0 M _ h
  · rw [if_neg c1] at h
    refine sd_b_zf (c := .eq) rfl (decide_eq_false c1) (by decide) ?_
    refine sd_b_go 1 (pc2 := 105) (lv2 := [(1, .inr (.inr (some (1)))), (3, .inl (v3)), (4, .inl (v4))]) (st2 := [.inr (.inr (some (1))), .inl (s0), .inr (.inr (some (into)))]) rfl ?_
    obtain ⟨r2, e2, h⟩ := sd_bnd h
    refine sd_b_call [.inr (.inr (some (1)))] [.inl (s0), .inr (.inr (some (into)))] rfl rfl sd_i_X7_value rfl rfl (Nat.le_of_ble_eq_true rfl) (sd_rc_v sd_o_1) (m_X7_value (by omega) e2) ?_
    refine sd_b_go 1 (pc2 := 116) (lv2 := [(1, .inr (.inr (some (1)))), (3, .inl (v3)), (4, .inl (v4))]) (st2 := [.inl (r2.1), .inl (s0), .inr (.inr (some (into)))]) rfl ?_
    refine sd_b_wk [(1, .inr (.inr (some (1))))] (List.forall_mem_cons.mpr ⟨rfl, (fun _ h0 => absurd h0 List.not_mem_nil)⟩) ?_
    exact t_X5_readsValue_116 hd into h_into r2.1 s0 r2.2 _ h
def f_X5_readsValue_63 (into : Nat) (v3 : Int) (v4 : Int) (M : sd_M) : Option (Int × sd_M) := if (M 14 0) < 60 then (if v4 = 0 then (f_X5_readsValue_99 into v3 v4 1 (sd_s M 14 0 (sd_w ((M 14 0) + 1)))) else (f_X5_readsValue_99 into v3 v4 0 (sd_s M 14 0 (sd_w ((M 14 0) + 1))))) else ((f_X7_fails 3 M).bind fun r3 => if r3.1 = 0 ∨ r3.1 = 1 then some (r3.1, r3.2) else none)
set_option maxRecDepth 4000 in
theorem t_X5_readsValue_63 {X : Nat → List sd_V → List sd_E → sd_A → Prop} {d : Nat} (hd : 1 ≤ d) (into : Nat) (h_into : sd_o into 4) (v3 : Int) (v4 : Int) (M : sd_M) (Rr : Int × sd_M) (h : f_X5_readsValue_63 into v3 v4 M = some Rr) : sd_B X d sd_q_X5_readsValue 63 [(0, .inr (.inr (some (14)))), (1, .inr (.inr (some (1)))), (2, .inr (.inr (some (into)))), (3, .inl (v3)), (4, .inl (v4))] [] M (some (.inl Rr.1), sd_rp Rr.2, 0, 0) := by
  unfold f_X5_readsValue_63 at h
  refine sd_b_go 1 (pc2 := 64) (lv2 := [(0, .inr (.inr (some (14)))), (1, .inr (.inr (some (1)))), (2, .inr (.inr (some (into)))), (3, .inl (v3)), (4, .inl (v4))]) (st2 := [.inr (.inr (some (14)))]) rfl ?_
  refine sd_b_gi (k := 0) sd_o_14 rfl rfl rfl ?_
  refine sd_b_go 1 (pc2 := 69) (lv2 := [(0, .inr (.inr (some (14)))), (1, .inr (.inr (some (1)))), (2, .inr (.inr (some (into)))), (3, .inl (v3)), (4, .inl (v4))]) (st2 := [.inl (60), .inl (M 14 0)]) rfl ?_
  by_cases c1 : (M 14 0) < 60
  · rw [if_pos c1] at h
    refine sd_b_ct (c := .lt) (tgt := 78) rfl (decide_eq_true c1) (by decide) ?_
    refine sd_b_go 2 (pc2 := 80) (lv2 := [(0, .inr (.inr (some (14)))), (1, .inr (.inr (some (1)))), (2, .inr (.inr (some (into)))), (3, .inl (v3)), (4, .inl (v4))]) (st2 := [.inr (.inr (some (14))), .inr (.inr (some (14)))]) rfl ?_
    refine sd_b_gi (k := 0) sd_o_14 rfl rfl rfl ?_
    refine sd_b_go 2 (pc2 := 85) (lv2 := [(0, .inr (.inr (some (14)))), (1, .inr (.inr (some (1)))), (2, .inr (.inr (some (into)))), (3, .inl (v3)), (4, .inl (v4))]) (st2 := [.inl (sd_w ((M 14 0) + 1)), .inr (.inr (some (14)))]) rfl ?_
    refine sd_b_pi (k := 0) sd_o_14 rfl rfl rfl rfl rfl ?_
    refine sd_b_go 2 (pc2 := 91) (lv2 := [(0, .inr (.inr (some (14)))), (1, .inr (.inr (some (1)))), (2, .inr (.inr (some (into)))), (3, .inl (v3)), (4, .inl (v4))]) (st2 := [.inl (v4), .inr (.inr (some (into)))]) rfl ?_
    by_cases c2 : v4 = 0
    · rw [if_pos c2] at h
      refine sd_b_zt (c := .eq) (tgt := 98) rfl (decide_eq_true c2) (by decide) ?_
      refine sd_b_go 1 (pc2 := 99) (lv2 := [(0, .inr (.inr (some (14)))), (1, .inr (.inr (some (1)))), (2, .inr (.inr (some (into)))), (3, .inl (v3)), (4, .inl (v4))]) (st2 := [.inl (1), .inr (.inr (some (into)))]) rfl ?_
      refine sd_b_wk [(1, .inr (.inr (some (1)))), (3, .inl (v3)), (4, .inl (v4))] (List.forall_mem_cons.mpr ⟨rfl, (List.forall_mem_cons.mpr ⟨rfl, (List.forall_mem_cons.mpr ⟨rfl, (fun _ h0 => absurd h0 List.not_mem_nil)⟩)⟩)⟩) ?_
      exact t_X5_readsValue_99 hd into h_into v3 v4 1 (sd_s M 14 0 (sd_w ((M 14 0) + 1))) _ h
    · rw [if_neg c2] at h
      refine sd_b_zf (c := .eq) rfl (decide_eq_false c2) (by decide) ?_
      refine sd_b_go 2 (pc2 := 99) (lv2 := [(0, .inr (.inr (some (14)))), (1, .inr (.inr (some (1)))), (2, .inr (.inr (some (into)))), (3, .inl (v3)), (4, .inl (v4))]) (st2 := [.inl (0), .inr (.inr (some (into)))]) rfl ?_
      refine sd_b_wk [(1, .inr (.inr (some (1)))), (3, .inl (v3)), (4, .inl (v4))] (List.forall_mem_cons.mpr ⟨rfl, (List.forall_mem_cons.mpr ⟨rfl, (List.forall_mem_cons.mpr ⟨rfl, (fun _ h0 => absurd h0 List.not_mem_nil)⟩)⟩)⟩) ?_
      exact t_X5_readsValue_99 hd into h_into v3 v4 0 (sd_s M 14 0 (sd_w ((M 14 0) + 1))) _ h
  · rw [if_neg c1] at h
    refine sd_b_cf (c := .lt) rfl (decide_eq_false c1) (by decide) ?_
    refine sd_b_go 2 (pc2 := 74) (lv2 := [(0, .inr (.inr (some (14)))), (1, .inr (.inr (some (1)))), (2, .inr (.inr (some (into)))), (3, .inl (v3)), (4, .inl (v4))]) (st2 := [.inl (3), .inr (.inr (some (1)))]) rfl ?_
    obtain ⟨r3, e3, h⟩ := sd_bnd h
    refine sd_b_call [.inr (.inr (some (1))), .inl (3)] [] rfl rfl sd_i_X7_fails rfl rfl (Nat.le_of_ble_eq_true rfl) (sd_rc_v sd_o_1) (m_X7_fails (by omega) e3) ?_
    obtain ⟨g4, h⟩ := sd_if h
    cases h
    exact sd_b_rz g4 rfl rfl
def f_X5_readsValue_44 (into : Nat) (v3 : Int) (v4 : Int) (M : sd_M) : Option (Int × sd_M) := if v4 = 0 then (f_X5_readsValue_63 into v3 v4 M) else ((f_X7_value M).bind fun r2 => if r2.1 = ((-1)) then ((f_X7_fails 1 r2.2).bind fun r4 => if r4.1 = 0 ∨ r4.1 = 1 then some (r4.1, r4.2) else none) else (f_X5_readsValue_63 into v3 v4 r2.2))
set_option maxRecDepth 4000 in
theorem t_X5_readsValue_44 {X : Nat → List sd_V → List sd_E → sd_A → Prop} {d : Nat} (hd : 1 ≤ d) (into : Nat) (h_into : sd_o into 4) (v3 : Int) (v4 : Int) (M : sd_M) (Rr : Int × sd_M) (h : f_X5_readsValue_44 into v3 v4 M = some Rr) : sd_B X d sd_q_X5_readsValue 44 [(0, .inr (.inr (some (14)))), (1, .inr (.inr (some (1)))), (2, .inr (.inr (some (into)))), (3, .inl (v3)), (4, .inl (v4))] [] M (some (.inl Rr.1), sd_rp Rr.2, 0, 0) := by
  unfold f_X5_readsValue_44 at h
  refine sd_b_go 1 (pc2 := 46) (lv2 := [(0, .inr (.inr (some (14)))), (1, .inr (.inr (some (1)))), (2, .inr (.inr (some (into)))), (3, .inl (v3)), (4, .inl (v4))]) (st2 := [.inl (v4)]) rfl ?_
  by_cases c1 : v4 = 0
  · rw [if_pos c1] at h
    refine sd_b_zt (c := .eq) (tgt := 63) rfl (decide_eq_true c1) (by decide) ?_
    refine sd_b_wk [(0, .inr (.inr (some (14)))), (1, .inr (.inr (some (1)))), (2, .inr (.inr (some (into)))), (3, .inl (v3)), (4, .inl (v4))] (List.forall_mem_cons.mpr ⟨rfl, (List.forall_mem_cons.mpr ⟨rfl, (List.forall_mem_cons.mpr ⟨rfl, (List.forall_mem_cons.mpr ⟨rfl, (List.forall_mem_cons.mpr ⟨rfl, (fun _ h0 => absurd h0 List.not_mem_nil)⟩)⟩)⟩)⟩)⟩) ?_
    exact t_X5_readsValue_63 hd into h_into v3 v4 M _ h
  · rw [if_neg c1] at h
    refine sd_b_zf (c := .eq) rfl (decide_eq_false c1) (by decide) ?_
    refine sd_b_go 1 (pc2 := 50) (lv2 := [(0, .inr (.inr (some (14)))), (1, .inr (.inr (some (1)))), (2, .inr (.inr (some (into)))), (3, .inl (v3)), (4, .inl (v4))]) (st2 := [.inr (.inr (some (1)))]) rfl ?_
    obtain ⟨r2, e2, h⟩ := sd_bnd h
    refine sd_b_call [.inr (.inr (some (1)))] [] rfl rfl sd_i_X7_value rfl rfl (Nat.le_of_ble_eq_true rfl) (sd_rc_v sd_o_1) (m_X7_value (by omega) e2) ?_
    refine sd_b_go 1 (pc2 := 54) (lv2 := [(0, .inr (.inr (some (14)))), (1, .inr (.inr (some (1)))), (2, .inr (.inr (some (into)))), (3, .inl (v3)), (4, .inl (v4))]) (st2 := [.inl ((-1)), .inl (r2.1)]) rfl ?_
    by_cases c3 : r2.1 = ((-1))
    · rw [if_pos c3] at h
      refine sd_b_cf (c := .ne) rfl (decide_eq_false (not_not_intro c3)) (by decide) ?_
      refine sd_b_go 2 (pc2 := 59) (lv2 := [(0, .inr (.inr (some (14)))), (1, .inr (.inr (some (1)))), (2, .inr (.inr (some (into)))), (3, .inl (v3)), (4, .inl (v4))]) (st2 := [.inl (1), .inr (.inr (some (1)))]) rfl ?_
      obtain ⟨r4, e4, h⟩ := sd_bnd h
      refine sd_b_call [.inr (.inr (some (1))), .inl (1)] [] rfl rfl sd_i_X7_fails rfl rfl (Nat.le_of_ble_eq_true rfl) (sd_rc_v sd_o_1) (m_X7_fails (by omega) e4) ?_
      obtain ⟨g5, h⟩ := sd_if h
      cases h
      exact sd_b_rz g5 rfl rfl
    · rw [if_neg c3] at h
      refine sd_b_ct (c := .ne) (tgt := 63) rfl (decide_eq_true c3) (by decide) ?_
      refine sd_b_wk [(0, .inr (.inr (some (14)))), (1, .inr (.inr (some (1)))), (2, .inr (.inr (some (into)))), (3, .inl (v3)), (4, .inl (v4))] (List.forall_mem_cons.mpr ⟨rfl, (List.forall_mem_cons.mpr ⟨rfl, (List.forall_mem_cons.mpr ⟨rfl, (List.forall_mem_cons.mpr ⟨rfl, (List.forall_mem_cons.mpr ⟨rfl, (fun _ h0 => absurd h0 List.not_mem_nil)⟩)⟩)⟩)⟩)⟩) ?_
      exact t_X5_readsValue_63 hd into h_into v3 v4 r2.2 _ h
def f_X5_readsValue_38 (into : Nat) (M : sd_M) : Option (Int × sd_M) := (f_X7_fails 0 M).bind fun r1 => if r1.1 = 0 ∨ r1.1 = 1 then some (r1.1, r1.2) else none
set_option maxRecDepth 4000 in
theorem t_X5_readsValue_38 {X : Nat → List sd_V → List sd_E → sd_A → Prop} {d : Nat} (hd : 1 ≤ d) (into : Nat) (h_into : sd_o into 4) (M : sd_M) (Rr : Int × sd_M) (h : f_X5_readsValue_38 into M = some Rr) : sd_B X d sd_q_X5_readsValue 38 [(1, .inr (.inr (some (1))))] [] M (some (.inl Rr.1), sd_rp Rr.2, 0, 0) := by
  unfold f_X5_readsValue_38 at h
  refine sd_b_go 2 (pc2 := 40) (lv2 := [(1, .inr (.inr (some (1))))]) (st2 := [.inl (0), .inr (.inr (some (1)))]) rfl ?_
  obtain ⟨r1, e1, h⟩ := sd_bnd h
  refine sd_b_call [.inr (.inr (some (1))), .inl (0)] [] rfl rfl sd_i_X7_fails rfl rfl (Nat.le_of_ble_eq_true rfl) (sd_rc_v sd_o_1) (m_X7_fails (by omega) e1) ?_
  obtain ⟨g2, h⟩ := sd_if h
  cases h
  exact sd_b_rz g2 rfl rfl
def f_X5_readsValue_17 (into : Nat) (v3 : Int) (s0 : Int) (M : sd_M) : Option (Int × sd_M) := if s0 = 0 then (if v3 < 600 then (f_X5_readsValue_38 into M) else (if v3 < 611 then (f_X5_readsValue_44 into v3 s0 M) else (f_X5_readsValue_38 into M))) else (f_X5_readsValue_44 into v3 s0 M)
set_option maxRecDepth 4000 in
theorem t_X5_readsValue_17 {X : Nat → List sd_V → List sd_E → sd_A → Prop} {d : Nat} (hd : 1 ≤ d) (into : Nat) (h_into : sd_o into 4) (v3 : Int) (s0 : Int) (M : sd_M) (Rr : Int × sd_M) (h : f_X5_readsValue_17 into v3 s0 M = some Rr) : sd_B X d sd_q_X5_readsValue 17 [(0, .inr (.inr (some (14)))), (1, .inr (.inr (some (1)))), (2, .inr (.inr (some (into)))), (3, .inl (v3))] [.inl (s0)] M (some (.inl Rr.1), sd_rp Rr.2, 0, 0) := by
  unfold f_X5_readsValue_17 at h
  refine sd_b_go 2 (pc2 := 21) (lv2 := [(4, .inl (s0)), (0, .inr (.inr (some (14)))), (1, .inr (.inr (some (1)))), (2, .inr (.inr (some (into)))), (3, .inl (v3))]) (st2 := [.inl (s0)]) rfl ?_
  by_cases c1 : s0 = 0
  · rw [if_pos c1] at h
    refine sd_b_zf (c := .ne) rfl (decide_eq_false (not_not_intro c1)) (by decide) ?_
    refine sd_b_go 2 (pc2 := 28) (lv2 := [(4, .inl (s0)), (0, .inr (.inr (some (14)))), (1, .inr (.inr (some (1)))), (2, .inr (.inr (some (into)))), (3, .inl (v3))]) (st2 := [.inl (600), .inl (v3)]) rfl ?_
    by_cases c2 : v3 < 600
    · rw [if_pos c2] at h
      refine sd_b_ct (c := .lt) (tgt := 38) rfl (decide_eq_true c2) (by decide) ?_
      refine sd_b_wk [(1, .inr (.inr (some (1))))] (List.forall_mem_cons.mpr ⟨rfl, (fun _ h0 => absurd h0 List.not_mem_nil)⟩) ?_
      exact t_X5_readsValue_38 hd into h_into M _ h
    · rw [if_neg c2] at h
      refine sd_b_cf (c := .lt) rfl (decide_eq_false c2) (by decide) ?_
      refine sd_b_go 2 (pc2 := 35) (lv2 := [(4, .inl (s0)), (0, .inr (.inr (some (14)))), (1, .inr (.inr (some (1)))), (2, .inr (.inr (some (into)))), (3, .inl (v3))]) (st2 := [.inl (611), .inl (v3)]) rfl ?_
      by_cases c3 : v3 < 611
      · rw [if_pos c3] at h
        refine sd_b_ct (c := .lt) (tgt := 44) rfl (decide_eq_true c3) (by decide) ?_
        refine sd_b_wk [(0, .inr (.inr (some (14)))), (1, .inr (.inr (some (1)))), (2, .inr (.inr (some (into)))), (3, .inl (v3)), (4, .inl (s0))] (List.forall_mem_cons.mpr ⟨rfl, (List.forall_mem_cons.mpr ⟨rfl, (List.forall_mem_cons.mpr ⟨rfl, (List.forall_mem_cons.mpr ⟨rfl, (List.forall_mem_cons.mpr ⟨rfl, (fun _ h0 => absurd h0 List.not_mem_nil)⟩)⟩)⟩)⟩)⟩) ?_
        exact t_X5_readsValue_44 hd into h_into v3 s0 M _ h
      · rw [if_neg c3] at h
        refine sd_b_cf (c := .lt) rfl (decide_eq_false c3) (by decide) ?_
        refine sd_b_wk [(1, .inr (.inr (some (1))))] (List.forall_mem_cons.mpr ⟨rfl, (fun _ h0 => absurd h0 List.not_mem_nil)⟩) ?_
        exact t_X5_readsValue_38 hd into h_into M _ h
  · rw [if_neg c1] at h
    refine sd_b_zt (c := .ne) (tgt := 44) rfl (decide_eq_true c1) (by decide) ?_
    refine sd_b_wk [(0, .inr (.inr (some (14)))), (1, .inr (.inr (some (1)))), (2, .inr (.inr (some (into)))), (3, .inl (v3)), (4, .inl (s0))] (List.forall_mem_cons.mpr ⟨rfl, (List.forall_mem_cons.mpr ⟨rfl, (List.forall_mem_cons.mpr ⟨rfl, (List.forall_mem_cons.mpr ⟨rfl, (List.forall_mem_cons.mpr ⟨rfl, (fun _ h0 => absurd h0 List.not_mem_nil)⟩)⟩)⟩)⟩)⟩) ?_
    exact t_X5_readsValue_44 hd into h_into v3 s0 M _ h
def f_X5_readsValue (into : Nat) (M : sd_M) : Option (Int × sd_M) := (f_X7_kind M).bind fun r1 => if r1.1 = 513 then (f_X5_readsValue_17 into r1.1 1 r1.2) else (f_X5_readsValue_17 into r1.1 0 r1.2)
set_option maxRecDepth 4000 in
theorem t_X5_readsValue {X : Nat → List sd_V → List sd_E → sd_A → Prop} {d : Nat} (hd : 1 ≤ d) (into : Nat) (h_into : sd_o into 4) (M : sd_M) (Rr : Int × sd_M) (h : f_X5_readsValue into M = some Rr) : sd_B X d sd_q_X5_readsValue 0 [(0, .inr (.inr (some (14)))), (1, .inr (.inr (some (1)))), (2, .inr (.inr (some (into))))] [] M (some (.inl Rr.1), sd_rp Rr.2, 0, 0) := by
  unfold f_X5_readsValue at h
  refine sd_b_go 1 (pc2 := 1) (lv2 := [(0, .inr (.inr (some (14)))), (1, .inr (.inr (some (1)))), (2, .inr (.inr (some (into))))]) (st2 := [.inr (.inr (some (1)))]) rfl ?_
  obtain ⟨r1, e1, h⟩ := sd_bnd h
  refine sd_b_call [.inr (.inr (some (1)))] [] rfl rfl sd_i_X7_kind rfl rfl (Nat.le_of_ble_eq_true rfl) (sd_rc_v sd_o_1) (m_X7_kind (by omega) e1) ?_
  refine sd_b_go 3 (pc2 := 9) (lv2 := [(3, .inl (r1.1)), (0, .inr (.inr (some (14)))), (1, .inr (.inr (some (1)))), (2, .inr (.inr (some (into))))]) (st2 := [.inl (513), .inl (r1.1)]) rfl ?_
  by_cases c2 : r1.1 = 513
  · rw [if_pos c2] at h
    refine sd_b_cf (c := .ne) rfl (decide_eq_false (not_not_intro c2)) (by decide) ?_
    refine sd_b_go 2 (pc2 := 17) (lv2 := [(3, .inl (r1.1)), (0, .inr (.inr (some (14)))), (1, .inr (.inr (some (1)))), (2, .inr (.inr (some (into))))]) (st2 := [.inl (1)]) rfl ?_
    refine sd_b_wk [(0, .inr (.inr (some (14)))), (1, .inr (.inr (some (1)))), (2, .inr (.inr (some (into)))), (3, .inl (r1.1))] (List.forall_mem_cons.mpr ⟨rfl, (List.forall_mem_cons.mpr ⟨rfl, (List.forall_mem_cons.mpr ⟨rfl, (List.forall_mem_cons.mpr ⟨rfl, (fun _ h0 => absurd h0 List.not_mem_nil)⟩)⟩)⟩)⟩) ?_
    exact t_X5_readsValue_17 hd into h_into r1.1 1 r1.2 _ h
  · rw [if_neg c2] at h
    refine sd_b_ct (c := .ne) (tgt := 16) rfl (decide_eq_true c2) (by decide) ?_
    refine sd_b_go 1 (pc2 := 17) (lv2 := [(3, .inl (r1.1)), (0, .inr (.inr (some (14)))), (1, .inr (.inr (some (1)))), (2, .inr (.inr (some (into))))]) (st2 := [.inl (0)]) rfl ?_
    refine sd_b_wk [(0, .inr (.inr (some (14)))), (1, .inr (.inr (some (1)))), (2, .inr (.inr (some (into)))), (3, .inl (r1.1))] (List.forall_mem_cons.mpr ⟨rfl, (List.forall_mem_cons.mpr ⟨rfl, (List.forall_mem_cons.mpr ⟨rfl, (List.forall_mem_cons.mpr ⟨rfl, (fun _ h0 => absurd h0 List.not_mem_nil)⟩)⟩)⟩)⟩) ?_
    exact t_X5_readsValue_17 hd into h_into r1.1 0 r1.2 _ h
theorem m_X5_readsValue {X : Nat → List sd_V → List sd_E → sd_A → Prop} {d : Nat} (hd : 2 ≤ d) {into : Nat} (h_into : sd_o into 4) {M : sd_M} {Rr : Int × sd_M} (h : f_X5_readsValue into M = some Rr) : sd_Cal X d 46 [.inr (.inr (some (14))), .inr (.inr (some (1))), .inr (.inr (some (into)))] (sd_rp M) (some (.inl Rr.1), sd_rp Rr.2, 0, 0) := by
  obtain ⟨d, rfl⟩ : ∃ d2, d = d2 + 1 := ⟨d - 1, by omega⟩
  exact sd_cal_of sd_i_X5_readsValue (Nat.le_of_ble_eq_true rfl) (t_X5_readsValue (by omega) into h_into M Rr h)
-- X7_cutOne
def sd_q_X7_cutOne : sd_MI := (yX7_cutOne, cX7_cutOne, 6, (some .int), 7, 1, sd_t_X7_cutOne)
set_option maxRecDepth 4000 in
theorem sd_i_X7_cutOne : sd_mL[56]? = some sd_q_X7_cutOne := rfl
def f_X7_cutOne_119 (v1 : Int) (v5 : Int) (s0 : Int) (M : sd_M) : Option (Int × sd_M) := (f_X7_addToken s0 v1 0 M).bind fun r1 => if v5 = 0 then (some (1, r1.2)) else (some (2, r1.2))
set_option maxRecDepth 4000 in
theorem t_X7_cutOne_119 {X : Nat → List sd_V → List sd_E → sd_A → Prop} {d : Nat} (hd : 2 ≤ d) (v1 : Int) (v5 : Int) (s0 : Int) (M : sd_M) (Rr : Int × sd_M) (h : f_X7_cutOne_119 v1 v5 s0 M = some Rr) : sd_B X d sd_q_X7_cutOne 119 [(1, .inl (v1)), (5, .inl (v5))] [.inl (s0), .inr (.inr (some (1)))] M (some (.inl Rr.1), sd_rp Rr.2, 0, 0) := by
  unfold f_X7_cutOne_119 at h
  refine sd_b_go 2 (pc2 := 121) (lv2 := [(1, .inl (v1)), (5, .inl (v5))]) (st2 := [.inl (0), .inl (v1), .inl (s0), .inr (.inr (some (1)))]) rfl ?_
  obtain ⟨r1, e1, h⟩ := sd_bnd h
  refine sd_b_call [.inr (.inr (some (1))), .inl (s0), .inl (v1), .inl (0)] [] rfl rfl sd_i_X7_addToken rfl rfl (Nat.le_of_ble_eq_true rfl) (sd_rc_v sd_o_1) (m_X7_addToken (by omega) e1) ?_
  refine sd_b_go 1 (pc2 := 126) (lv2 := [(1, .inl (v1)), (5, .inl (v5))]) (st2 := [.inl (v5)]) rfl ?_
  by_cases c2 : v5 = 0
  · rw [if_pos c2] at h
    refine sd_b_zt (c := .eq) (tgt := 133) rfl (decide_eq_true c2) (by decide) ?_
    refine sd_b_go 1 (pc2 := 134) (lv2 := [(1, .inl (v1)), (5, .inl (v5))]) (st2 := [.inl (1)]) rfl ?_
    cases h
    exact sd_b_rt rfl rfl rfl
  · rw [if_neg c2] at h
    refine sd_b_zf (c := .eq) rfl (decide_eq_false c2) (by decide) ?_
    refine sd_b_go 2 (pc2 := 134) (lv2 := [(1, .inl (v1)), (5, .inl (v5))]) (st2 := [.inl (2)]) rfl ?_
    cases h
    exact sd_b_rt rfl rfl rfl
def f_X7_cutOne_100 (v1 : Int) (v4 : Int) (s0 : Int) (M : sd_M) : Option (Int × sd_M) := if s0 = 0 then (f_X7_cutOne_119 v1 s0 v4 M) else (f_X7_cutOne_119 v1 s0 (sd_w (v4 + 256)) M)
set_option maxRecDepth 4000 in
theorem t_X7_cutOne_100 {X : Nat → List sd_V → List sd_E → sd_A → Prop} {d : Nat} (hd : 2 ≤ d) (v1 : Int) (v4 : Int) (s0 : Int) (M : sd_M) (Rr : Int × sd_M) (h : f_X7_cutOne_100 v1 v4 s0 M = some Rr) : sd_B X d sd_q_X7_cutOne 100 [(0, .inr (.inr (some (1)))), (1, .inl (v1)), (4, .inl (v4))] [.inl (s0)] M (some (.inl Rr.1), sd_rp Rr.2, 0, 0) := by
  unfold f_X7_cutOne_100 at h
  refine sd_b_go 3 (pc2 := 105) (lv2 := [(5, .inl (s0)), (0, .inr (.inr (some (1)))), (1, .inl (v1)), (4, .inl (v4))]) (st2 := [.inl (s0), .inr (.inr (some (1)))]) rfl ?_
  by_cases c1 : s0 = 0
  · rw [if_pos c1] at h
    refine sd_b_zt (c := .eq) (tgt := 117) rfl (decide_eq_true c1) (by decide) ?_
    refine sd_b_go 1 (pc2 := 119) (lv2 := [(5, .inl (s0)), (0, .inr (.inr (some (1)))), (1, .inl (v1)), (4, .inl (v4))]) (st2 := [.inl (v4), .inr (.inr (some (1)))]) rfl ?_
    refine sd_b_wk [(1, .inl (v1)), (5, .inl (s0))] (List.forall_mem_cons.mpr ⟨rfl, (List.forall_mem_cons.mpr ⟨rfl, (fun _ h0 => absurd h0 List.not_mem_nil)⟩)⟩) ?_
    exact t_X7_cutOne_119 hd v1 s0 v4 M _ h
  · rw [if_neg c1] at h
    refine sd_b_zf (c := .eq) rfl (decide_eq_false c1) (by decide) ?_
    refine sd_b_go 4 (pc2 := 119) (lv2 := [(5, .inl (s0)), (0, .inr (.inr (some (1)))), (1, .inl (v1)), (4, .inl (v4))]) (st2 := [.inl (sd_w (v4 + 256)), .inr (.inr (some (1)))]) rfl ?_
    refine sd_b_wk [(1, .inl (v1)), (5, .inl (s0))] (List.forall_mem_cons.mpr ⟨rfl, (List.forall_mem_cons.mpr ⟨rfl, (fun _ h0 => absurd h0 List.not_mem_nil)⟩)⟩) ?_
    exact t_X7_cutOne_119 hd v1 s0 (sd_w (v4 + 256)) M _ h
def f_X7_cutOne_99 (v1 : Int) (v4 : Int) (M : sd_M) : Option (Int × sd_M) := f_X7_cutOne_100 v1 v4 0 M
set_option maxRecDepth 4000 in
theorem t_X7_cutOne_99 {X : Nat → List sd_V → List sd_E → sd_A → Prop} {d : Nat} (hd : 2 ≤ d) (v1 : Int) (v4 : Int) (M : sd_M) (Rr : Int × sd_M) (h : f_X7_cutOne_99 v1 v4 M = some Rr) : sd_B X d sd_q_X7_cutOne 99 [(0, .inr (.inr (some (1)))), (1, .inl (v1)), (4, .inl (v4))] [] M (some (.inl Rr.1), sd_rp Rr.2, 0, 0) := by
  unfold f_X7_cutOne_99 at h
  refine sd_b_go 1 (pc2 := 100) (lv2 := [(0, .inr (.inr (some (1)))), (1, .inl (v1)), (4, .inl (v4))]) (st2 := [.inl (0)]) rfl ?_
  refine sd_b_wk [(0, .inr (.inr (some (1)))), (1, .inl (v1)), (4, .inl (v4))] (List.forall_mem_cons.mpr ⟨rfl, (List.forall_mem_cons.mpr ⟨rfl, (List.forall_mem_cons.mpr ⟨rfl, (fun _ h0 => absurd h0 List.not_mem_nil)⟩)⟩)⟩) ?_
  exact t_X7_cutOne_100 hd v1 v4 0 M _ h
def f_X7_cutOne_83 (v1 : Int) (v4 : Int) (M : sd_M) : Option (Int × sd_M) := (f_X7_byteAt (sd_w (v1 + 1)) M).bind fun r1 => if r1.1 = 61 then (f_X7_cutOne_100 v1 v4 1 r1.2) else (f_X7_cutOne_99 v1 v4 r1.2)
set_option maxRecDepth 4000 in
theorem t_X7_cutOne_83 {X : Nat → List sd_V → List sd_E → sd_A → Prop} {d : Nat} (hd : 2 ≤ d) (v1 : Int) (v4 : Int) (M : sd_M) (Rr : Int × sd_M) (h : f_X7_cutOne_83 v1 v4 M = some Rr) : sd_B X d sd_q_X7_cutOne 83 [(0, .inr (.inr (some (1)))), (1, .inl (v1)), (4, .inl (v4))] [] M (some (.inl Rr.1), sd_rp Rr.2, 0, 0) := by
  unfold f_X7_cutOne_83 at h
  refine sd_b_go 4 (pc2 := 87) (lv2 := [(0, .inr (.inr (some (1)))), (1, .inl (v1)), (4, .inl (v4))]) (st2 := [.inl (sd_w (v1 + 1)), .inr (.inr (some (1)))]) rfl ?_
  obtain ⟨r1, e1, h⟩ := sd_bnd h
  refine sd_b_call [.inr (.inr (some (1))), .inl (sd_w (v1 + 1))] [] rfl rfl sd_i_X7_byteAt rfl rfl (Nat.le_of_ble_eq_true rfl) (sd_rc_v sd_o_1) (m_X7_byteAt (by omega) e1) ?_
  refine sd_b_go 1 (pc2 := 92) (lv2 := [(0, .inr (.inr (some (1)))), (1, .inl (v1)), (4, .inl (v4))]) (st2 := [.inl (61), .inl (r1.1)]) rfl ?_
  by_cases c2 : r1.1 = 61
  · rw [if_pos c2] at h
    refine sd_b_cf (c := .ne) rfl (decide_eq_false (not_not_intro c2)) (by decide) ?_
    refine sd_b_go 2 (pc2 := 100) (lv2 := [(0, .inr (.inr (some (1)))), (1, .inl (v1)), (4, .inl (v4))]) (st2 := [.inl (1)]) rfl ?_
    refine sd_b_wk [(0, .inr (.inr (some (1)))), (1, .inl (v1)), (4, .inl (v4))] (List.forall_mem_cons.mpr ⟨rfl, (List.forall_mem_cons.mpr ⟨rfl, (List.forall_mem_cons.mpr ⟨rfl, (fun _ h0 => absurd h0 List.not_mem_nil)⟩)⟩)⟩) ?_
    exact t_X7_cutOne_100 hd v1 v4 1 r1.2 _ h
  · rw [if_neg c2] at h
    refine sd_b_ct (c := .ne) (tgt := 99) rfl (decide_eq_true c2) (by decide) ?_
    refine sd_b_wk [(0, .inr (.inr (some (1)))), (1, .inl (v1)), (4, .inl (v4))] (List.forall_mem_cons.mpr ⟨rfl, (List.forall_mem_cons.mpr ⟨rfl, (List.forall_mem_cons.mpr ⟨rfl, (fun _ h0 => absurd h0 List.not_mem_nil)⟩)⟩)⟩) ?_
    exact t_X7_cutOne_99 hd v1 v4 r1.2 _ h
def f_X7_cutOne (p1 : Int) (M : sd_M) : Option (Int × sd_M) := (f_X7_runOf 48 57 p1 M).bind fun r1 => if r1.1 ≤ 0 then ((f_X7_runOf 97 122 p1 r1.2).bind fun r3 => if r3.1 ≤ 0 then ((f_X7_byteAt p1 r3.2).bind fun r5 => if r5.1 = 60 then (f_X7_cutOne_83 p1 r5.1 r5.2) else (if r5.1 = 62 then (f_X7_cutOne_83 p1 r5.1 r5.2) else (f_X7_cutOne_99 p1 r5.1 r5.2))) else ((f_X7_wordAt p1 r3.1 r3.2).bind fun r8 => (f_X7_addToken (sd_w (600 + r8.1)) p1 0 r8.2).bind fun r9 => some (r3.1, r9.2))) else ((f_X7_numberAt p1 r1.1 r1.2).bind fun r10 => (f_X7_addToken 513 p1 r10.1 r10.2).bind fun r11 => some (r1.1, r11.2))
set_option maxRecDepth 4000 in
theorem t_X7_cutOne {X : Nat → List sd_V → List sd_E → sd_A → Prop} {d : Nat} (hd : 2 ≤ d) (p1 : Int) (M : sd_M) (Rr : Int × sd_M) (h : f_X7_cutOne p1 M = some Rr) : sd_B X d sd_q_X7_cutOne 0 [(0, .inr (.inr (some (1)))), (1, .inl (p1))] [] M (some (.inl Rr.1), sd_rp Rr.2, 0, 0) := by
  unfold f_X7_cutOne at h
  refine sd_b_go 4 (pc2 := 6) (lv2 := [(0, .inr (.inr (some (1)))), (1, .inl (p1))]) (st2 := [.inl (p1), .inl (57), .inl (48), .inr (.inr (some (1)))]) rfl ?_
  obtain ⟨r1, e1, h⟩ := sd_bnd h
  refine sd_b_call [.inr (.inr (some (1))), .inl (48), .inl (57), .inl (p1)] [] rfl rfl sd_i_X7_runOf rfl rfl (Nat.le_of_ble_eq_true rfl) (sd_rc_v sd_o_1) (m_X7_runOf (by omega) e1) ?_
  refine sd_b_go 2 (pc2 := 11) (lv2 := [(2, .inl (r1.1)), (0, .inr (.inr (some (1)))), (1, .inl (p1))]) (st2 := [.inl (r1.1)]) rfl ?_
  by_cases c2 : r1.1 ≤ 0
  · rw [if_pos c2] at h
    refine sd_b_zt (c := .le) (tgt := 30) rfl (decide_eq_true c2) (by decide) ?_
    refine sd_b_go 4 (pc2 := 36) (lv2 := [(2, .inl (r1.1)), (0, .inr (.inr (some (1)))), (1, .inl (p1))]) (st2 := [.inl (p1), .inl (122), .inl (97), .inr (.inr (some (1)))]) rfl ?_
    obtain ⟨r3, e3, h⟩ := sd_bnd h
    refine sd_b_call [.inr (.inr (some (1))), .inl (97), .inl (122), .inl (p1)] [] rfl rfl sd_i_X7_runOf rfl rfl (Nat.le_of_ble_eq_true rfl) (sd_rc_v sd_o_1) (m_X7_runOf (by omega) e3) ?_
    refine sd_b_go 2 (pc2 := 41) (lv2 := [(3, .inl (r3.1)), (2, .inl (r1.1)), (0, .inr (.inr (some (1)))), (1, .inl (p1))]) (st2 := [.inl (r3.1)]) rfl ?_
    by_cases c4 : r3.1 ≤ 0
    · rw [if_pos c4] at h
      refine sd_b_zt (c := .le) (tgt := 62) rfl (decide_eq_true c4) (by decide) ?_
      refine sd_b_go 2 (pc2 := 64) (lv2 := [(3, .inl (r3.1)), (2, .inl (r1.1)), (0, .inr (.inr (some (1)))), (1, .inl (p1))]) (st2 := [.inl (p1), .inr (.inr (some (1)))]) rfl ?_
      obtain ⟨r5, e5, h⟩ := sd_bnd h
      refine sd_b_call [.inr (.inr (some (1))), .inl (p1)] [] rfl rfl sd_i_X7_byteAt rfl rfl (Nat.le_of_ble_eq_true rfl) (sd_rc_v sd_o_1) (m_X7_byteAt (by omega) e5) ?_
      refine sd_b_go 3 (pc2 := 73) (lv2 := [(4, .inl (r5.1)), (3, .inl (r3.1)), (2, .inl (r1.1)), (0, .inr (.inr (some (1)))), (1, .inl (p1))]) (st2 := [.inl (60), .inl (r5.1)]) rfl ?_
      by_cases c6 : r5.1 = 60
      · rw [if_pos c6] at h
        refine sd_b_ct (c := .eq) (tgt := 83) rfl (decide_eq_true c6) (by decide) ?_
        refine sd_b_wk [(0, .inr (.inr (some (1)))), (1, .inl (p1)), (4, .inl (r5.1))] (List.forall_mem_cons.mpr ⟨rfl, (List.forall_mem_cons.mpr ⟨rfl, (List.forall_mem_cons.mpr ⟨rfl, (fun _ h0 => absurd h0 List.not_mem_nil)⟩)⟩)⟩) ?_
        exact t_X7_cutOne_83 hd p1 r5.1 r5.2 _ h
      · rw [if_neg c6] at h
        refine sd_b_cf (c := .eq) rfl (decide_eq_false c6) (by decide) ?_
        refine sd_b_go 2 (pc2 := 80) (lv2 := [(4, .inl (r5.1)), (3, .inl (r3.1)), (2, .inl (r1.1)), (0, .inr (.inr (some (1)))), (1, .inl (p1))]) (st2 := [.inl (62), .inl (r5.1)]) rfl ?_
        by_cases c7 : r5.1 = 62
        · rw [if_pos c7] at h
          refine sd_b_cf (c := .ne) rfl (decide_eq_false (not_not_intro c7)) (by decide) ?_
          refine sd_b_wk [(0, .inr (.inr (some (1)))), (1, .inl (p1)), (4, .inl (r5.1))] (List.forall_mem_cons.mpr ⟨rfl, (List.forall_mem_cons.mpr ⟨rfl, (List.forall_mem_cons.mpr ⟨rfl, (fun _ h0 => absurd h0 List.not_mem_nil)⟩)⟩)⟩) ?_
          exact t_X7_cutOne_83 hd p1 r5.1 r5.2 _ h
        · rw [if_neg c7] at h
          refine sd_b_ct (c := .ne) (tgt := 99) rfl (decide_eq_true c7) (by decide) ?_
          refine sd_b_wk [(0, .inr (.inr (some (1)))), (1, .inl (p1)), (4, .inl (r5.1))] (List.forall_mem_cons.mpr ⟨rfl, (List.forall_mem_cons.mpr ⟨rfl, (List.forall_mem_cons.mpr ⟨rfl, (fun _ h0 => absurd h0 List.not_mem_nil)⟩)⟩)⟩) ?_
          exact t_X7_cutOne_99 hd p1 r5.1 r5.2 _ h
    · rw [if_neg c4] at h
      refine sd_b_zf (c := .le) rfl (decide_eq_false c4) (by decide) ?_
      refine sd_b_go 5 (pc2 := 51) (lv2 := [(3, .inl (r3.1)), (2, .inl (r1.1)), (0, .inr (.inr (some (1)))), (1, .inl (p1))]) (st2 := [.inl (r3.1), .inl (p1), .inr (.inr (some (1))), .inl (600), .inr (.inr (some (1)))]) rfl ?_
      obtain ⟨r8, e8, h⟩ := sd_bnd h
      refine sd_b_call [.inr (.inr (some (1))), .inl (p1), .inl (r3.1)] [.inl (600), .inr (.inr (some (1)))] rfl rfl sd_i_X7_wordAt rfl rfl (Nat.le_of_ble_eq_true rfl) (sd_rc_v sd_o_1) (m_X7_wordAt (by omega) e8) ?_
      refine sd_b_go 3 (pc2 := 57) (lv2 := [(3, .inl (r3.1)), (2, .inl (r1.1)), (0, .inr (.inr (some (1)))), (1, .inl (p1))]) (st2 := [.inl (0), .inl (p1), .inl (sd_w (600 + r8.1)), .inr (.inr (some (1)))]) rfl ?_
      obtain ⟨r9, e9, h⟩ := sd_bnd h
      refine sd_b_call [.inr (.inr (some (1))), .inl (sd_w (600 + r8.1)), .inl (p1), .inl (0)] [] rfl rfl sd_i_X7_addToken rfl rfl (Nat.le_of_ble_eq_true rfl) (sd_rc_v sd_o_1) (m_X7_addToken (by omega) e9) ?_
      refine sd_b_go 1 (pc2 := 61) (lv2 := [(3, .inl (r3.1)), (2, .inl (r1.1)), (0, .inr (.inr (some (1)))), (1, .inl (p1))]) (st2 := [.inl (r3.1)]) rfl ?_
      cases h
      exact sd_b_rt rfl rfl rfl
  · rw [if_neg c2] at h
    refine sd_b_zf (c := .le) rfl (decide_eq_false c2) (by decide) ?_
    refine sd_b_go 6 (pc2 := 22) (lv2 := [(2, .inl (r1.1)), (0, .inr (.inr (some (1)))), (1, .inl (p1))]) (st2 := [.inl (r1.1), .inl (p1), .inr (.inr (some (1))), .inl (p1), .inl (513), .inr (.inr (some (1)))]) rfl ?_
    obtain ⟨r10, e10, h⟩ := sd_bnd h
    refine sd_b_call [.inr (.inr (some (1))), .inl (p1), .inl (r1.1)] [.inl (p1), .inl (513), .inr (.inr (some (1)))] rfl rfl sd_i_X7_numberAt rfl rfl (Nat.le_of_ble_eq_true rfl) (sd_rc_v sd_o_1) (m_X7_numberAt (by omega) e10) ?_
    obtain ⟨r11, e11, h⟩ := sd_bnd h
    refine sd_b_call [.inr (.inr (some (1))), .inl (513), .inl (p1), .inl (r10.1)] [] rfl rfl sd_i_X7_addToken rfl rfl (Nat.le_of_ble_eq_true rfl) (sd_rc_v sd_o_1) (m_X7_addToken (by omega) e11) ?_
    refine sd_b_go 1 (pc2 := 29) (lv2 := [(2, .inl (r1.1)), (0, .inr (.inr (some (1)))), (1, .inl (p1))]) (st2 := [.inl (r1.1)]) rfl ?_
    cases h
    exact sd_b_rt rfl rfl rfl
theorem m_X7_cutOne {X : Nat → List sd_V → List sd_E → sd_A → Prop} {d : Nat} (hd : 3 ≤ d) {p1 : Int} {M : sd_M} {Rr : Int × sd_M} (h : f_X7_cutOne p1 M = some Rr) : sd_Cal X d 56 [.inr (.inr (some (1))), .inl (p1)] (sd_rp M) (some (.inl Rr.1), sd_rp Rr.2, 0, 0) := by
  obtain ⟨d, rfl⟩ : ∃ d2, d = d2 + 1 := ⟨d - 1, by omega⟩
  exact sd_cal_of sd_i_X7_cutOne (Nat.le_of_ble_eq_true rfl) (t_X7_cutOne (by omega) p1 M Rr h)
-- X7_number
def sd_q_X7_number : sd_MI := (yX7_number, cX7_number, 4, (some .int), 7, 2, sd_t_X7_number)
set_option maxRecDepth 4000 in
theorem sd_i_X7_number : sd_mL[65]? = some sd_q_X7_number := rfl
def f_X7_number_33 (M : sd_M) : Option (Int × sd_M) := (f_X7_fails 1 M).bind fun r1 => some ((-1), r1.2)
set_option maxRecDepth 4000 in
theorem t_X7_number_33 {X : Nat → List sd_V → List sd_E → sd_A → Prop} {d : Nat} (hd : 1 ≤ d) (M : sd_M) (Rr : Int × sd_M) (h : f_X7_number_33 M = some Rr) : sd_B X d sd_q_X7_number 33 [(0, .inr (.inr (some (1))))] [] M (some (.inl Rr.1), sd_rp Rr.2, 0, 0) := by
  unfold f_X7_number_33 at h
  refine sd_b_go 2 (pc2 := 35) (lv2 := [(0, .inr (.inr (some (1))))]) (st2 := [.inl (1), .inr (.inr (some (1)))]) rfl ?_
  obtain ⟨r1, e1, h⟩ := sd_bnd h
  refine sd_b_call [.inr (.inr (some (1))), .inl (1)] [] rfl rfl sd_i_X7_fails rfl rfl (Nat.le_of_ble_eq_true rfl) (sd_rc_v sd_o_1) (m_X7_fails (by omega) e1) ?_
  refine sd_b_go 2 (pc2 := 40) (lv2 := [(0, .inr (.inr (some (1))))]) (st2 := [.inl ((-1))]) rfl ?_
  cases h
  exact sd_b_rt rfl rfl rfl
def f_X7_number (p1 : Int) (p2 : Int) (M : sd_M) : Option (Int × sd_M) := (f_X7_value M).bind fun r1 => (f_X7_kind r1.2).bind fun r2 => if r2.1 = 513 then (if r1.1 < p1 then (f_X7_number_33 r2.2) else (if r1.1 ≤ p2 then ((f_X7_step r2.2).bind fun r6 => some (r1.1, r6.2)) else (f_X7_number_33 r2.2))) else ((f_X7_fails 0 r2.2).bind fun r7 => some ((-1), r7.2))
set_option maxRecDepth 4000 in
theorem t_X7_number {X : Nat → List sd_V → List sd_E → sd_A → Prop} {d : Nat} (hd : 1 ≤ d) (p1 : Int) (p2 : Int) (M : sd_M) (Rr : Int × sd_M) (h : f_X7_number p1 p2 M = some Rr) : sd_B X d sd_q_X7_number 0 [(0, .inr (.inr (some (1)))), (1, .inl (p1)), (2, .inl (p2))] [] M (some (.inl Rr.1), sd_rp Rr.2, 0, 0) := by
  unfold f_X7_number at h
  refine sd_b_go 1 (pc2 := 1) (lv2 := [(0, .inr (.inr (some (1)))), (1, .inl (p1)), (2, .inl (p2))]) (st2 := [.inr (.inr (some (1)))]) rfl ?_
  obtain ⟨r1, e1, h⟩ := sd_bnd h
  refine sd_b_call [.inr (.inr (some (1)))] [] rfl rfl sd_i_X7_value rfl rfl (Nat.le_of_ble_eq_true rfl) (sd_rc_v sd_o_1) (m_X7_value (by omega) e1) ?_
  refine sd_b_go 2 (pc2 := 6) (lv2 := [(3, .inl (r1.1)), (0, .inr (.inr (some (1)))), (1, .inl (p1)), (2, .inl (p2))]) (st2 := [.inr (.inr (some (1)))]) rfl ?_
  obtain ⟨r2, e2, h⟩ := sd_bnd h
  refine sd_b_call [.inr (.inr (some (1)))] [] rfl rfl sd_i_X7_kind rfl rfl (Nat.le_of_ble_eq_true rfl) (sd_rc_v sd_o_1) (m_X7_kind (by omega) e2) ?_
  refine sd_b_go 1 (pc2 := 12) (lv2 := [(3, .inl (r1.1)), (0, .inr (.inr (some (1)))), (1, .inl (p1)), (2, .inl (p2))]) (st2 := [.inl (513), .inl (r2.1)]) rfl ?_
  by_cases c3 : r2.1 = 513
  · rw [if_pos c3] at h
    refine sd_b_ct (c := .eq) (tgt := 23) rfl (decide_eq_true c3) (by decide) ?_
    refine sd_b_go 2 (pc2 := 25) (lv2 := [(3, .inl (r1.1)), (0, .inr (.inr (some (1)))), (1, .inl (p1)), (2, .inl (p2))]) (st2 := [.inl (p1), .inl (r1.1)]) rfl ?_
    by_cases c4 : r1.1 < p1
    · rw [if_pos c4] at h
      refine sd_b_ct (c := .lt) (tgt := 33) rfl (decide_eq_true c4) (by decide) ?_
      refine sd_b_wk [(0, .inr (.inr (some (1))))] (List.forall_mem_cons.mpr ⟨rfl, (fun _ h0 => absurd h0 List.not_mem_nil)⟩) ?_
      exact t_X7_number_33 hd r2.2 _ h
    · rw [if_neg c4] at h
      refine sd_b_cf (c := .lt) rfl (decide_eq_false c4) (by decide) ?_
      refine sd_b_go 2 (pc2 := 30) (lv2 := [(3, .inl (r1.1)), (0, .inr (.inr (some (1)))), (1, .inl (p1)), (2, .inl (p2))]) (st2 := [.inl (p2), .inl (r1.1)]) rfl ?_
      by_cases c5 : r1.1 ≤ p2
      · rw [if_pos c5] at h
        refine sd_b_ct (c := .le) (tgt := 41) rfl (decide_eq_true c5) (by decide) ?_
        refine sd_b_go 1 (pc2 := 42) (lv2 := [(3, .inl (r1.1)), (0, .inr (.inr (some (1)))), (1, .inl (p1)), (2, .inl (p2))]) (st2 := [.inr (.inr (some (1)))]) rfl ?_
        obtain ⟨r6, e6, h⟩ := sd_bnd h
        refine sd_b_call [.inr (.inr (some (1)))] [] rfl rfl sd_i_X7_step rfl rfl (Nat.le_of_ble_eq_true rfl) (sd_rc_v sd_o_1) (m_X7_step (by omega) e6) ?_
        refine sd_b_go 1 (pc2 := 46) (lv2 := [(3, .inl (r1.1)), (0, .inr (.inr (some (1)))), (1, .inl (p1)), (2, .inl (p2))]) (st2 := [.inl (r1.1)]) rfl ?_
        cases h
        exact sd_b_rt rfl rfl rfl
      · rw [if_neg c5] at h
        refine sd_b_cf (c := .le) rfl (decide_eq_false c5) (by decide) ?_
        refine sd_b_wk [(0, .inr (.inr (some (1))))] (List.forall_mem_cons.mpr ⟨rfl, (fun _ h0 => absurd h0 List.not_mem_nil)⟩) ?_
        exact t_X7_number_33 hd r2.2 _ h
  · rw [if_neg c3] at h
    refine sd_b_cf (c := .eq) rfl (decide_eq_false c3) (by decide) ?_
    refine sd_b_go 2 (pc2 := 17) (lv2 := [(3, .inl (r1.1)), (0, .inr (.inr (some (1)))), (1, .inl (p1)), (2, .inl (p2))]) (st2 := [.inl (0), .inr (.inr (some (1)))]) rfl ?_
    obtain ⟨r7, e7, h⟩ := sd_bnd h
    refine sd_b_call [.inr (.inr (some (1))), .inl (0)] [] rfl rfl sd_i_X7_fails rfl rfl (Nat.le_of_ble_eq_true rfl) (sd_rc_v sd_o_1) (m_X7_fails (by omega) e7) ?_
    refine sd_b_go 2 (pc2 := 22) (lv2 := [(3, .inl (r1.1)), (0, .inr (.inr (some (1)))), (1, .inl (p1)), (2, .inl (p2))]) (st2 := [.inl ((-1))]) rfl ?_
    cases h
    exact sd_b_rt rfl rfl rfl
theorem m_X7_number {X : Nat → List sd_V → List sd_E → sd_A → Prop} {d : Nat} (hd : 2 ≤ d) {p1 : Int} {p2 : Int} {M : sd_M} {Rr : Int × sd_M} (h : f_X7_number p1 p2 M = some Rr) : sd_Cal X d 65 [.inr (.inr (some (1))), .inl (p1), .inl (p2)] (sd_rp M) (some (.inl Rr.1), sd_rp Rr.2, 0, 0) := by
  obtain ⟨d, rfl⟩ : ∃ d2, d = d2 + 1 := ⟨d - 1, by omega⟩
  exact sd_cal_of sd_i_X7_number (Nat.le_of_ble_eq_true rfl) (t_X7_number (by omega) p1 p2 M Rr h)
-- X9_offer
def sd_q_X9_offer : sd_MI := (yX9_offer, cX9_offer, 4, (some .int), 9, 2, sd_t_X9_offer)
set_option maxRecDepth 4000 in
theorem sd_i_X9_offer : sd_mL[78]? = some sd_q_X9_offer := rfl
def f_X9_offer (p1 : Int) (p2 : Int) (M : sd_M) : Option (Int × sd_M) := (f_X9_isOffer p1 M).bind fun r1 => if r1.1 = 0 then (some ((-1), r1.2)) else (if p2 = 0 then (if 0 ≤ p1 ∧ p1 < 9 then (some ((r1.2) 67 p1.toNat, r1.2)) else none) else (if p2 = 1 then (if 0 ≤ p1 ∧ p1 < 9 then (some ((r1.2) 68 p1.toNat, r1.2)) else none) else (if p2 = 2 then (if 0 ≤ p1 ∧ p1 < 9 then (some ((r1.2) 62 p1.toNat, r1.2)) else none) else (if p2 = 3 then (if 0 ≤ p1 ∧ p1 < 9 then (some ((r1.2) 69 p1.toNat, r1.2)) else none) else (if p2 = 4 then (if 0 ≤ p1 ∧ p1 < 9 then (some ((r1.2) 70 p1.toNat, r1.2)) else none) else (if p2 = 5 then (if 0 ≤ p1 ∧ p1 < 9 then (some ((r1.2) 71 p1.toNat, r1.2)) else none) else (some ((-1), r1.2))))))))
set_option maxRecDepth 4000 in
theorem t_X9_offer {X : Nat → List sd_V → List sd_E → sd_A → Prop} {d : Nat} (hd : 1 ≤ d) (p1 : Int) (p2 : Int) (M : sd_M) (Rr : Int × sd_M) (h : f_X9_offer p1 p2 M = some Rr) : sd_B X d sd_q_X9_offer 0 [(0, .inr (.inr (some (0)))), (1, .inl (p1)), (2, .inl (p2))] [] M (some (.inl Rr.1), sd_rp Rr.2, 0, 0) := by
  unfold f_X9_offer at h
  refine sd_b_go 2 (pc2 := 2) (lv2 := [(0, .inr (.inr (some (0)))), (1, .inl (p1)), (2, .inl (p2))]) (st2 := [.inl (p1), .inr (.inr (some (0)))]) rfl ?_
  obtain ⟨r1, e1, h⟩ := sd_bnd h
  refine sd_b_call [.inr (.inr (some (0))), .inl (p1)] [] rfl rfl sd_i_X9_isOffer rfl rfl (Nat.le_of_ble_eq_true rfl) (sd_rc_v sd_o_0) (m_X9_isOffer (by omega) e1) ?_
  by_cases c2 : r1.1 = 0
  · rw [if_pos c2] at h
    refine sd_b_zf (c := .ne) rfl (decide_eq_false (not_not_intro c2)) (by decide) ?_
    refine sd_b_go 1 (pc2 := 9) (lv2 := [(0, .inr (.inr (some (0)))), (1, .inl (p1)), (2, .inl (p2))]) (st2 := [.inl ((-1))]) rfl ?_
    cases h
    exact sd_b_rt rfl rfl rfl
  · rw [if_neg c2] at h
    refine sd_b_zt (c := .ne) (tgt := 10) rfl (decide_eq_true c2) (by decide) ?_
    refine sd_b_go 1 (pc2 := 11) (lv2 := [(0, .inr (.inr (some (0)))), (1, .inl (p1)), (2, .inl (p2))]) (st2 := [.inr (.inr (some (0)))]) rfl ?_
    refine sd_b_gr (k := 5) sd_o_0 rfl rfl rfl ?_
    refine sd_b_gr (k := 1) sd_o_58 rfl rfl rfl ?_
    refine sd_b_go 2 (pc2 := 19) (lv2 := [(3, .inr (.inr (some (66)))), (0, .inr (.inr (some (0)))), (1, .inl (p1)), (2, .inl (p2))]) (st2 := [.inl (p2)]) rfl ?_
    by_cases c3 : p2 = 0
    · rw [if_pos c3] at h
      refine sd_b_eq c3 ?_
      refine sd_b_go 1 (pc2 := 56) (lv2 := [(3, .inr (.inr (some (66)))), (0, .inr (.inr (some (0)))), (1, .inl (p1)), (2, .inl (p2))]) (st2 := []) rfl ?_
      refine sd_b_go 1 (pc2 := 57) (lv2 := [(3, .inr (.inr (some (66)))), (0, .inr (.inr (some (0)))), (1, .inl (p1)), (2, .inl (p2))]) (st2 := [.inr (.inr (some (66)))]) rfl ?_
      refine sd_b_gr (k := 5) sd_o_66 rfl rfl rfl ?_
      refine sd_b_go 1 (pc2 := 61) (lv2 := [(3, .inr (.inr (some (66)))), (0, .inr (.inr (some (0)))), (1, .inl (p1)), (2, .inl (p2))]) (st2 := [.inl (p1), .inr (.inr (some (67)))]) rfl ?_
      obtain ⟨g4, h⟩ := sd_if h
      refine sd_b_ai (sd_oa sd_o_66 (by decide) (off := 1) (List.mem_of_getElem? (i := 0) rfl)) g4 rfl ?_
      cases h
      exact sd_b_rt rfl rfl rfl
    · rw [if_neg c3] at h
      by_cases c5 : p2 = 1
      · rw [if_pos c5] at h
        refine sd_b_eq c5 ?_
        refine sd_b_go 1 (pc2 := 63) (lv2 := [(3, .inr (.inr (some (66)))), (0, .inr (.inr (some (0)))), (1, .inl (p1)), (2, .inl (p2))]) (st2 := []) rfl ?_
        refine sd_b_go 1 (pc2 := 64) (lv2 := [(3, .inr (.inr (some (66)))), (0, .inr (.inr (some (0)))), (1, .inl (p1)), (2, .inl (p2))]) (st2 := [.inr (.inr (some (66)))]) rfl ?_
        refine sd_b_gr (k := 6) sd_o_66 rfl rfl rfl ?_
        refine sd_b_go 1 (pc2 := 68) (lv2 := [(3, .inr (.inr (some (66)))), (0, .inr (.inr (some (0)))), (1, .inl (p1)), (2, .inl (p2))]) (st2 := [.inl (p1), .inr (.inr (some (68)))]) rfl ?_
        obtain ⟨g6, h⟩ := sd_if h
        refine sd_b_ai (sd_oa sd_o_66 (by decide) (off := 2) (List.mem_of_getElem? (i := 1) rfl)) g6 rfl ?_
        cases h
        exact sd_b_rt rfl rfl rfl
      · rw [if_neg c5] at h
        by_cases c7 : p2 = 2
        · rw [if_pos c7] at h
          refine sd_b_eq c7 ?_
          refine sd_b_go 1 (pc2 := 70) (lv2 := [(3, .inr (.inr (some (66)))), (0, .inr (.inr (some (0)))), (1, .inl (p1)), (2, .inl (p2))]) (st2 := []) rfl ?_
          refine sd_b_go 1 (pc2 := 71) (lv2 := [(3, .inr (.inr (some (66)))), (0, .inr (.inr (some (0)))), (1, .inl (p1)), (2, .inl (p2))]) (st2 := [.inr (.inr (some (0)))]) rfl ?_
          refine sd_b_gr (k := 5) sd_o_0 rfl rfl rfl ?_
          refine sd_b_gr (k := 0) sd_o_58 rfl rfl rfl ?_
          refine sd_b_gr (k := 5) sd_o_59 rfl rfl rfl ?_
          refine sd_b_go 1 (pc2 := 81) (lv2 := [(3, .inr (.inr (some (66)))), (0, .inr (.inr (some (0)))), (1, .inl (p1)), (2, .inl (p2))]) (st2 := [.inl (p1), .inr (.inr (some (62)))]) rfl ?_
          obtain ⟨g8, h⟩ := sd_if h
          refine sd_b_ai (sd_oa sd_o_59 (by decide) (off := 3) (List.mem_of_getElem? (i := 2) rfl)) g8 rfl ?_
          cases h
          exact sd_b_rt rfl rfl rfl
        · rw [if_neg c7] at h
          by_cases c9 : p2 = 3
          · rw [if_pos c9] at h
            refine sd_b_eq c9 ?_
            refine sd_b_go 1 (pc2 := 83) (lv2 := [(3, .inr (.inr (some (66)))), (0, .inr (.inr (some (0)))), (1, .inl (p1)), (2, .inl (p2))]) (st2 := []) rfl ?_
            refine sd_b_go 1 (pc2 := 84) (lv2 := [(3, .inr (.inr (some (66)))), (0, .inr (.inr (some (0)))), (1, .inl (p1)), (2, .inl (p2))]) (st2 := [.inr (.inr (some (66)))]) rfl ?_
            refine sd_b_gr (k := 7) sd_o_66 rfl rfl rfl ?_
            refine sd_b_go 1 (pc2 := 88) (lv2 := [(3, .inr (.inr (some (66)))), (0, .inr (.inr (some (0)))), (1, .inl (p1)), (2, .inl (p2))]) (st2 := [.inl (p1), .inr (.inr (some (69)))]) rfl ?_
            obtain ⟨g10, h⟩ := sd_if h
            refine sd_b_ai (sd_oa sd_o_66 (by decide) (off := 3) (List.mem_of_getElem? (i := 2) rfl)) g10 rfl ?_
            cases h
            exact sd_b_rt rfl rfl rfl
          · rw [if_neg c9] at h
            by_cases c11 : p2 = 4
            · rw [if_pos c11] at h
              refine sd_b_eq c11 ?_
              refine sd_b_go 1 (pc2 := 90) (lv2 := [(3, .inr (.inr (some (66)))), (0, .inr (.inr (some (0)))), (1, .inl (p1)), (2, .inl (p2))]) (st2 := []) rfl ?_
              refine sd_b_go 1 (pc2 := 91) (lv2 := [(3, .inr (.inr (some (66)))), (0, .inr (.inr (some (0)))), (1, .inl (p1)), (2, .inl (p2))]) (st2 := [.inr (.inr (some (66)))]) rfl ?_
              refine sd_b_gr (k := 8) sd_o_66 rfl rfl rfl ?_
              refine sd_b_go 1 (pc2 := 95) (lv2 := [(3, .inr (.inr (some (66)))), (0, .inr (.inr (some (0)))), (1, .inl (p1)), (2, .inl (p2))]) (st2 := [.inl (p1), .inr (.inr (some (70)))]) rfl ?_
              obtain ⟨g12, h⟩ := sd_if h
              refine sd_b_ai (sd_oa sd_o_66 (by decide) (off := 4) (List.mem_of_getElem? (i := 3) rfl)) g12 rfl ?_
              cases h
              exact sd_b_rt rfl rfl rfl
            · rw [if_neg c11] at h
              by_cases c13 : p2 = 5
              · rw [if_pos c13] at h
                refine sd_b_eq c13 ?_
                refine sd_b_go 1 (pc2 := 97) (lv2 := [(3, .inr (.inr (some (66)))), (0, .inr (.inr (some (0)))), (1, .inl (p1)), (2, .inl (p2))]) (st2 := []) rfl ?_
                refine sd_b_go 1 (pc2 := 98) (lv2 := [(3, .inr (.inr (some (66)))), (0, .inr (.inr (some (0)))), (1, .inl (p1)), (2, .inl (p2))]) (st2 := [.inr (.inr (some (66)))]) rfl ?_
                refine sd_b_gr (k := 9) sd_o_66 rfl rfl rfl ?_
                refine sd_b_go 1 (pc2 := 102) (lv2 := [(3, .inr (.inr (some (66)))), (0, .inr (.inr (some (0)))), (1, .inl (p1)), (2, .inl (p2))]) (st2 := [.inl (p1), .inr (.inr (some (71)))]) rfl ?_
                obtain ⟨g14, h⟩ := sd_if h
                refine sd_b_ai (sd_oa sd_o_66 (by decide) (off := 5) (List.mem_of_getElem? (i := 4) rfl)) g14 rfl ?_
                cases h
                exact sd_b_rt rfl rfl rfl
              · rw [if_neg c13] at h
                refine sd_b_td (tgt := 104) rfl (by omega) (by decide) ?_
                refine sd_b_go 1 (pc2 := 105) (lv2 := [(3, .inr (.inr (some (66)))), (0, .inr (.inr (some (0)))), (1, .inl (p1)), (2, .inl (p2))]) (st2 := [.inl ((-1))]) rfl ?_
                cases h
                exact sd_b_rt rfl rfl rfl
theorem m_X9_offer {X : Nat → List sd_V → List sd_E → sd_A → Prop} {d : Nat} (hd : 2 ≤ d) {p1 : Int} {p2 : Int} {M : sd_M} {Rr : Int × sd_M} (h : f_X9_offer p1 p2 M = some Rr) : sd_Cal X d 78 [.inr (.inr (some (0))), .inl (p1), .inl (p2)] (sd_rp M) (some (.inl Rr.1), sd_rp Rr.2, 0, 0) := by
  obtain ⟨d, rfl⟩ : ∃ d2, d = d2 + 1 := ⟨d - 1, by omega⟩
  exact sd_cal_of sd_i_X9_offer (Nat.le_of_ble_eq_true rfl) (t_X9_offer (by omega) p1 p2 M Rr h)
-- X9_need
def sd_q_X9_need : sd_MI := (yX9_need, cX9_need, 5, (some .int), 9, 3, sd_t_X9_need)
set_option maxRecDepth 4000 in
theorem sd_i_X9_need : sd_mL[79]? = some sd_q_X9_need := rfl
def f_X9_need_24 (v1 : Int) (v3 : Int) (s0 : Int) (M : sd_M) : Option (Int × sd_M) := if s0 = ((-1)) then (some ((-1), M)) else (if v3 = 0 then (if 0 ≤ s0 ∧ s0 < 12 then (some (M 64 s0.toNat, M)) else none) else (if v3 = 1 then (if 0 ≤ s0 ∧ s0 < 12 then (some (M 65 s0.toNat, M)) else none) else (if v3 = 2 then ((f_X9_isLine v1 M).bind fun r7 => if r7.1 = 0 then (some (0, r7.2)) else ((f_X0_holds 66 s0 r7.2).bind fun r9 => if r9.1 = 0 then (some (0, r9.2)) else (some (1, r9.2)))) else (some ((-1), M)))))
set_option maxRecDepth 4000 in
theorem t_X9_need_24 {X : Nat → List sd_V → List sd_E → sd_A → Prop} {d : Nat} (hd : 2 ≤ d) (v1 : Int) (v3 : Int) (s0 : Int) (M : sd_M) (Rr : Int × sd_M) (h : f_X9_need_24 v1 v3 s0 M = some Rr) : sd_B X d sd_q_X9_need 24 [(0, .inr (.inr (some (0)))), (1, .inl (v1)), (3, .inl (v3))] [.inl (s0)] M (some (.inl Rr.1), sd_rp Rr.2, 0, 0) := by
  unfold f_X9_need_24 at h
  refine sd_b_go 3 (pc2 := 29) (lv2 := [(4, .inl (s0)), (0, .inr (.inr (some (0)))), (1, .inl (v1)), (3, .inl (v3))]) (st2 := [.inl ((-1)), .inl (s0)]) rfl ?_
  by_cases c1 : s0 = ((-1))
  · rw [if_pos c1] at h
    refine sd_b_cf (c := .ne) rfl (decide_eq_false (not_not_intro c1)) (by decide) ?_
    refine sd_b_go 1 (pc2 := 33) (lv2 := [(4, .inl (s0)), (0, .inr (.inr (some (0)))), (1, .inl (v1)), (3, .inl (v3))]) (st2 := [.inl ((-1))]) rfl ?_
    cases h
    exact sd_b_rt rfl rfl rfl
  · rw [if_neg c1] at h
    refine sd_b_ct (c := .ne) (tgt := 34) rfl (decide_eq_true c1) (by decide) ?_
    refine sd_b_go 1 (pc2 := 35) (lv2 := [(4, .inl (s0)), (0, .inr (.inr (some (0)))), (1, .inl (v1)), (3, .inl (v3))]) (st2 := [.inl (v3)]) rfl ?_
    by_cases c2 : v3 = 0
    · rw [if_pos c2] at h
      refine sd_b_eq c2 ?_
      refine sd_b_go 1 (pc2 := 60) (lv2 := [(4, .inl (s0)), (0, .inr (.inr (some (0)))), (1, .inl (v1)), (3, .inl (v3))]) (st2 := []) rfl ?_
      refine sd_b_go 1 (pc2 := 61) (lv2 := [(4, .inl (s0)), (0, .inr (.inr (some (0)))), (1, .inl (v1)), (3, .inl (v3))]) (st2 := [.inr (.inr (some (0)))]) rfl ?_
      refine sd_b_gr (k := 5) sd_o_0 rfl rfl rfl ?_
      refine sd_b_gr (k := 0) sd_o_58 rfl rfl rfl ?_
      refine sd_b_gr (k := 8) sd_o_59 rfl rfl rfl ?_
      refine sd_b_go 1 (pc2 := 72) (lv2 := [(4, .inl (s0)), (0, .inr (.inr (some (0)))), (1, .inl (v1)), (3, .inl (v3))]) (st2 := [.inl (s0), .inr (.inr (some (64)))]) rfl ?_
      obtain ⟨g3, h⟩ := sd_if h
      refine sd_b_ai (sd_oa sd_o_59 (by decide) (off := 5) (List.mem_of_getElem? (i := 4) rfl)) g3 rfl ?_
      cases h
      exact sd_b_rt rfl rfl rfl
    · rw [if_neg c2] at h
      by_cases c4 : v3 = 1
      · rw [if_pos c4] at h
        refine sd_b_eq c4 ?_
        refine sd_b_go 1 (pc2 := 74) (lv2 := [(4, .inl (s0)), (0, .inr (.inr (some (0)))), (1, .inl (v1)), (3, .inl (v3))]) (st2 := []) rfl ?_
        refine sd_b_go 1 (pc2 := 75) (lv2 := [(4, .inl (s0)), (0, .inr (.inr (some (0)))), (1, .inl (v1)), (3, .inl (v3))]) (st2 := [.inr (.inr (some (0)))]) rfl ?_
        refine sd_b_gr (k := 5) sd_o_0 rfl rfl rfl ?_
        refine sd_b_gr (k := 0) sd_o_58 rfl rfl rfl ?_
        refine sd_b_gr (k := 9) sd_o_59 rfl rfl rfl ?_
        refine sd_b_go 1 (pc2 := 86) (lv2 := [(4, .inl (s0)), (0, .inr (.inr (some (0)))), (1, .inl (v1)), (3, .inl (v3))]) (st2 := [.inl (s0), .inr (.inr (some (65)))]) rfl ?_
        obtain ⟨g5, h⟩ := sd_if h
        refine sd_b_ai (sd_oa sd_o_59 (by decide) (off := 6) (List.mem_of_getElem? (i := 5) rfl)) g5 rfl ?_
        cases h
        exact sd_b_rt rfl rfl rfl
      · rw [if_neg c4] at h
        by_cases c6 : v3 = 2
        · rw [if_pos c6] at h
          refine sd_b_eq c6 ?_
          refine sd_b_go 1 (pc2 := 88) (lv2 := [(4, .inl (s0)), (0, .inr (.inr (some (0)))), (1, .inl (v1)), (3, .inl (v3))]) (st2 := []) rfl ?_
          refine sd_b_go 2 (pc2 := 90) (lv2 := [(4, .inl (s0)), (0, .inr (.inr (some (0)))), (1, .inl (v1)), (3, .inl (v3))]) (st2 := [.inl (v1), .inr (.inr (some (0)))]) rfl ?_
          obtain ⟨r7, e7, h⟩ := sd_bnd h
          refine sd_b_call [.inr (.inr (some (0))), .inl (v1)] [] rfl rfl sd_i_X9_isLine rfl rfl (Nat.le_of_ble_eq_true rfl) (sd_rc_v sd_o_0) (m_X9_isLine (by omega) e7) ?_
          by_cases c8 : r7.1 = 0
          · rw [if_pos c8] at h
            refine sd_b_zt (c := .eq) (tgt := 122) rfl (decide_eq_true c8) (by decide) ?_
            refine sd_b_go 1 (pc2 := 123) (lv2 := [(4, .inl (s0)), (0, .inr (.inr (some (0)))), (1, .inl (v1)), (3, .inl (v3))]) (st2 := [.inl (0)]) rfl ?_
            cases h
            exact sd_b_rt rfl rfl rfl
          · rw [if_neg c8] at h
            refine sd_b_zf (c := .eq) rfl (decide_eq_false c8) (by decide) ?_
            refine sd_b_go 1 (pc2 := 97) (lv2 := [(4, .inl (s0)), (0, .inr (.inr (some (0)))), (1, .inl (v1)), (3, .inl (v3))]) (st2 := [.inr (.inr (some (0)))]) rfl ?_
            refine sd_b_gr (k := 5) sd_o_0 rfl rfl rfl ?_
            refine sd_b_gr (k := 1) sd_o_58 rfl rfl rfl ?_
            refine sd_b_go 1 (pc2 := 104) (lv2 := [(4, .inl (s0)), (0, .inr (.inr (some (0)))), (1, .inl (v1)), (3, .inl (v3))]) (st2 := [.inr (.inr (some (0))), .inr (.inr (some (66)))]) rfl ?_
            refine sd_b_gr (k := 5) sd_o_0 rfl rfl rfl ?_
            refine sd_b_gr (k := 0) sd_o_58 rfl rfl rfl ?_
            refine sd_b_go 1 (pc2 := 112) (lv2 := [(4, .inl (s0)), (0, .inr (.inr (some (0)))), (1, .inl (v1)), (3, .inl (v3))]) (st2 := [.inl (s0), .inr (.inr (some (59))), .inr (.inr (some (66)))]) rfl ?_
            obtain ⟨r9, e9, h⟩ := sd_bnd h
            refine sd_b_call [.inr (.inr (some (66))), .inr (.inr (some (59))), .inl (s0)] [] rfl rfl sd_i_X0_holds rfl rfl (Nat.le_of_ble_eq_true rfl) (sd_rc_v sd_o_66) (m_X0_holds (by omega) sd_o_66 e9) ?_
            by_cases c10 : r9.1 = 0
            · rw [if_pos c10] at h
              refine sd_b_zt (c := .eq) (tgt := 122) rfl (decide_eq_true c10) (by decide) ?_
              refine sd_b_go 1 (pc2 := 123) (lv2 := [(4, .inl (s0)), (0, .inr (.inr (some (0)))), (1, .inl (v1)), (3, .inl (v3))]) (st2 := [.inl (0)]) rfl ?_
              cases h
              exact sd_b_rt rfl rfl rfl
            · rw [if_neg c10] at h
              refine sd_b_zf (c := .eq) rfl (decide_eq_false c10) (by decide) ?_
              refine sd_b_go 2 (pc2 := 123) (lv2 := [(4, .inl (s0)), (0, .inr (.inr (some (0)))), (1, .inl (v1)), (3, .inl (v3))]) (st2 := [.inl (1)]) rfl ?_
              cases h
              exact sd_b_rt rfl rfl rfl
        · rw [if_neg c6] at h
          refine sd_b_td (tgt := 124) rfl (by omega) (by decide) ?_
          refine sd_b_go 1 (pc2 := 125) (lv2 := [(4, .inl (s0)), (0, .inr (.inr (some (0)))), (1, .inl (v1)), (3, .inl (v3))]) (st2 := [.inl ((-1))]) rfl ?_
          cases h
          exact sd_b_rt rfl rfl rfl
def f_X9_need (p1 : Int) (p2 : Int) (p3 : Int) (M : sd_M) : Option (Int × sd_M) := (f_X9_isOffer p1 M).bind fun r1 => if r1.1 = 0 then (f_X9_need_24 p1 p3 ((-1)) r1.2) else ((f_X8_findNeed 59 p1 p2 r1.2).bind fun r3 => f_X9_need_24 p1 p3 r3.1 r3.2)
set_option maxRecDepth 4000 in
theorem t_X9_need {X : Nat → List sd_V → List sd_E → sd_A → Prop} {d : Nat} (hd : 2 ≤ d) (p1 : Int) (p2 : Int) (p3 : Int) (M : sd_M) (Rr : Int × sd_M) (h : f_X9_need p1 p2 p3 M = some Rr) : sd_B X d sd_q_X9_need 0 [(0, .inr (.inr (some (0)))), (1, .inl (p1)), (2, .inl (p2)), (3, .inl (p3))] [] M (some (.inl Rr.1), sd_rp Rr.2, 0, 0) := by
  unfold f_X9_need at h
  refine sd_b_go 2 (pc2 := 2) (lv2 := [(0, .inr (.inr (some (0)))), (1, .inl (p1)), (2, .inl (p2)), (3, .inl (p3))]) (st2 := [.inl (p1), .inr (.inr (some (0)))]) rfl ?_
  obtain ⟨r1, e1, h⟩ := sd_bnd h
  refine sd_b_call [.inr (.inr (some (0))), .inl (p1)] [] rfl rfl sd_i_X9_isOffer rfl rfl (Nat.le_of_ble_eq_true rfl) (sd_rc_v sd_o_0) (m_X9_isOffer (by omega) e1) ?_
  by_cases c2 : r1.1 = 0
  · rw [if_pos c2] at h
    refine sd_b_zt (c := .eq) (tgt := 23) rfl (decide_eq_true c2) (by decide) ?_
    refine sd_b_go 1 (pc2 := 24) (lv2 := [(0, .inr (.inr (some (0)))), (1, .inl (p1)), (2, .inl (p2)), (3, .inl (p3))]) (st2 := [.inl ((-1))]) rfl ?_
    refine sd_b_wk [(0, .inr (.inr (some (0)))), (1, .inl (p1)), (3, .inl (p3))] (List.forall_mem_cons.mpr ⟨rfl, (List.forall_mem_cons.mpr ⟨rfl, (List.forall_mem_cons.mpr ⟨rfl, (fun _ h0 => absurd h0 List.not_mem_nil)⟩)⟩)⟩) ?_
    exact t_X9_need_24 hd p1 p3 ((-1)) r1.2 _ h
  · rw [if_neg c2] at h
    refine sd_b_zf (c := .eq) rfl (decide_eq_false c2) (by decide) ?_
    refine sd_b_go 1 (pc2 := 9) (lv2 := [(0, .inr (.inr (some (0)))), (1, .inl (p1)), (2, .inl (p2)), (3, .inl (p3))]) (st2 := [.inr (.inr (some (0)))]) rfl ?_
    refine sd_b_gr (k := 5) sd_o_0 rfl rfl rfl ?_
    refine sd_b_gr (k := 0) sd_o_58 rfl rfl rfl ?_
    refine sd_b_go 2 (pc2 := 17) (lv2 := [(0, .inr (.inr (some (0)))), (1, .inl (p1)), (2, .inl (p2)), (3, .inl (p3))]) (st2 := [.inl (p2), .inl (p1), .inr (.inr (some (59)))]) rfl ?_
    obtain ⟨r3, e3, h⟩ := sd_bnd h
    refine sd_b_call [.inr (.inr (some (59))), .inl (p1), .inl (p2)] [] rfl rfl sd_i_X8_findNeed rfl rfl (Nat.le_of_ble_eq_true rfl) (sd_rc_v sd_o_59) (m_X8_findNeed (by omega) sd_o_59 e3) ?_
    refine sd_b_go 1 (pc2 := 24) (lv2 := [(0, .inr (.inr (some (0)))), (1, .inl (p1)), (2, .inl (p2)), (3, .inl (p3))]) (st2 := [.inl (r3.1)]) rfl ?_
    refine sd_b_wk [(0, .inr (.inr (some (0)))), (1, .inl (p1)), (3, .inl (p3))] (List.forall_mem_cons.mpr ⟨rfl, (List.forall_mem_cons.mpr ⟨rfl, (List.forall_mem_cons.mpr ⟨rfl, (fun _ h0 => absurd h0 List.not_mem_nil)⟩)⟩)⟩) ?_
    exact t_X9_need_24 hd p1 p3 r3.1 r3.2 _ h
theorem m_X9_need {X : Nat → List sd_V → List sd_E → sd_A → Prop} {d : Nat} (hd : 3 ≤ d) {p1 : Int} {p2 : Int} {p3 : Int} {M : sd_M} {Rr : Int × sd_M} (h : f_X9_need p1 p2 p3 M = some Rr) : sd_Cal X d 79 [.inr (.inr (some (0))), .inl (p1), .inl (p2), .inl (p3)] (sd_rp M) (some (.inl Rr.1), sd_rp Rr.2, 0, 0) := by
  obtain ⟨d, rfl⟩ : ∃ d2, d = d2 + 1 := ⟨d - 1, by omega⟩
  exact sd_cal_of sd_i_X9_need (Nat.le_of_ble_eq_true rfl) (t_X9_need (by omega) p1 p2 p3 M Rr h)
-- X9_half
def sd_q_X9_half : sd_MI := (yX9_half, cX9_half, 6, (some .int), 9, 1, sd_t_X9_half)
set_option maxRecDepth 4000 in
theorem sd_i_X9_half : sd_mL[96]? = some sd_q_X9_half := rfl
def f_X9_half_122 (k70 : Int → Int → Int → Int → Int → sd_M → Option (Int × sd_M)) (k128 : Int → Int → sd_M → Option (Int × sd_M)) (v1 : Int) (v2 : Int) (v3 : Int) (v4 : Int) (v5 : Int) (M : sd_M) : Option (Int × sd_M) := k70 v1 v2 v3 v4 (sd_w (v5 + 1)) M
set_option maxRecDepth 4000 in
theorem t_X9_half_122 {X : Nat → List sd_V → List sd_E → sd_A → Prop} {d : Nat} (hd : 2 ≤ d) (k70 : Int → Int → Int → Int → Int → sd_M → Option (Int × sd_M)) (k128 : Int → Int → sd_M → Option (Int × sd_M)) (hk70 : ∀ (v1 : Int) (v2 : Int) (v3 : Int) (v4 : Int) (v5 : Int) (M : sd_M) (Rr : Int × sd_M), k70 v1 v2 v3 v4 v5 M = some Rr → sd_B X d sd_q_X9_half 70 [(0, .inr (.inr (some (0)))), (1, .inl (v1)), (2, .inl (v2)), (3, .inl (v3)), (4, .inl (v4)), (5, .inl (v5))] [] M (some (.inl Rr.1), sd_rp Rr.2, 0, 0)) (hk128 : ∀ (v1 : Int) (v4 : Int) (M : sd_M) (Rr : Int × sd_M), k128 v1 v4 M = some Rr → sd_B X d sd_q_X9_half 128 [(1, .inl (v1)), (4, .inl (v4))] [] M (some (.inl Rr.1), sd_rp Rr.2, 0, 0)) (v1 : Int) (v2 : Int) (v3 : Int) (v4 : Int) (v5 : Int) (M : sd_M) (Rr : Int × sd_M) (h : f_X9_half_122 k70 k128 v1 v2 v3 v4 v5 M = some Rr) : sd_B X d sd_q_X9_half 122 [(0, .inr (.inr (some (0)))), (1, .inl (v1)), (2, .inl (v2)), (3, .inl (v3)), (4, .inl (v4)), (5, .inl (v5))] [] M (some (.inl Rr.1), sd_rp Rr.2, 0, 0) := by
  unfold f_X9_half_122 at h
  refine sd_b_go 2 (pc2 := 70) (lv2 := [(5, .inl (sd_w (v5 + 1))), (0, .inr (.inr (some (0)))), (1, .inl (v1)), (2, .inl (v2)), (3, .inl (v3)), (4, .inl (v4))]) (st2 := []) rfl ?_
  refine sd_b_wk [(0, .inr (.inr (some (0)))), (1, .inl (v1)), (2, .inl (v2)), (3, .inl (v3)), (4, .inl (v4)), (5, .inl (sd_w (v5 + 1)))] (List.forall_mem_cons.mpr ⟨rfl, (List.forall_mem_cons.mpr ⟨rfl, (List.forall_mem_cons.mpr ⟨rfl, (List.forall_mem_cons.mpr ⟨rfl, (List.forall_mem_cons.mpr ⟨rfl, (List.forall_mem_cons.mpr ⟨rfl, (fun _ h0 => absurd h0 List.not_mem_nil)⟩)⟩)⟩)⟩)⟩)⟩) ?_
  exact hk70 v1 v2 v3 v4 (sd_w (v5 + 1)) M _ h
def f_X9_half_70 (k128 : Int → Int → sd_M → Option (Int × sd_M)) : Nat → Int → Int → Int → Int → Int → sd_M → Option (Int × sd_M)
  | 0, _, _, _, _, _, _ => none
  | n + 1, v1, v2, v3, v4, v5, M => if 512 ≤ v5 then (k128 v1 v4 M) else (if (sd_and (v5) (sd_xor (v2) ((-1)))) = 0 then ((f_J6_bitCount_0f7a4 v5 M).bind fun r3 => (f_J6_bitCount_0f7a4 v4 r3.2).bind fun r4 => if r4.1 ≤ r3.1 then (f_X9_half_122 (f_X9_half_70 k128 n) k128 v1 v2 v3 v4 v5 r4.2) else ((f_X0_signedOf 66 v5 r4.2).bind fun r6 => if (sd_w (2 * r6.1)) ≤ v3 then (f_X9_half_122 (f_X9_half_70 k128 n) k128 v1 v2 v3 v4 v5 r6.2) else (f_X9_half_122 (f_X9_half_70 k128 n) k128 v1 v2 v3 v5 v5 r6.2))) else (f_X9_half_122 (f_X9_half_70 k128 n) k128 v1 v2 v3 v4 v5 M))
set_option maxRecDepth 4000 in
theorem t_X9_half_70 {X : Nat → List sd_V → List sd_E → sd_A → Prop} {d : Nat} (hd : 2 ≤ d) (k128 : Int → Int → sd_M → Option (Int × sd_M)) (hk128 : ∀ (v1 : Int) (v4 : Int) (M : sd_M) (Rr : Int × sd_M), k128 v1 v4 M = some Rr → sd_B X d sd_q_X9_half 128 [(1, .inl (v1)), (4, .inl (v4))] [] M (some (.inl Rr.1), sd_rp Rr.2, 0, 0)) : ∀ (n : Nat) (v1 : Int) (v2 : Int) (v3 : Int) (v4 : Int) (v5 : Int) (M : sd_M) (Rr : Int × sd_M), f_X9_half_70 k128 n v1 v2 v3 v4 v5 M = some Rr → sd_B X d sd_q_X9_half 70 [(0, .inr (.inr (some (0)))), (1, .inl (v1)), (2, .inl (v2)), (3, .inl (v3)), (4, .inl (v4)), (5, .inl (v5))] [] M (some (.inl Rr.1), sd_rp Rr.2, 0, 0) := by
  intro n
  induction n with
  | zero => intro v1 v2 v3 v4 v5 M Rr h; cases h
  | succ n ih =>
    intro v1 v2 v3 v4 v5 M Rr h
    rw [f_X9_half_70] at h
    refine sd_b_go 2 (pc2 := 75) (lv2 := [(0, .inr (.inr (some (0)))), (1, .inl (v1)), (2, .inl (v2)), (3, .inl (v3)), (4, .inl (v4)), (5, .inl (v5))]) (st2 := [.inl (512), .inl (v5)]) rfl ?_
    by_cases c1 : 512 ≤ v5
    · rw [if_pos c1] at h
      refine sd_b_ct (c := .ge) (tgt := 128) rfl (decide_eq_true c1) (by decide) ?_
      refine sd_b_wk [(1, .inl (v1)), (4, .inl (v4))] (List.forall_mem_cons.mpr ⟨rfl, (List.forall_mem_cons.mpr ⟨rfl, (fun _ h0 => absurd h0 List.not_mem_nil)⟩)⟩) ?_
      exact hk128 v1 v4 M _ h
    · rw [if_neg c1] at h
      refine sd_b_cf (c := .ge) rfl (decide_eq_false c1) (by decide) ?_
      refine sd_b_go 5 (pc2 := 84) (lv2 := [(0, .inr (.inr (some (0)))), (1, .inl (v1)), (2, .inl (v2)), (3, .inl (v3)), (4, .inl (v4)), (5, .inl (v5))]) (st2 := [.inl (sd_and (v5) (sd_xor (v2) ((-1))))]) rfl ?_
      by_cases c2 : (sd_and (v5) (sd_xor (v2) ((-1)))) = 0
      · rw [if_pos c2] at h
        refine sd_b_zf (c := .ne) rfl (decide_eq_false (not_not_intro c2)) (by decide) ?_
        refine sd_b_go 1 (pc2 := 89) (lv2 := [(0, .inr (.inr (some (0)))), (1, .inl (v1)), (2, .inl (v2)), (3, .inl (v3)), (4, .inl (v4)), (5, .inl (v5))]) (st2 := [.inl (v5)]) rfl ?_
        obtain ⟨r3, e3, h⟩ := sd_bnd h
        refine sd_b_call [.inl (v5)] [] rfl rfl sd_i_J6_bitCount_0f7a4 rfl rfl (Nat.le_of_ble_eq_true rfl) rfl (m_J6_bitCount_0f7a4 (by omega) e3) ?_
        refine sd_b_go 1 (pc2 := 94) (lv2 := [(0, .inr (.inr (some (0)))), (1, .inl (v1)), (2, .inl (v2)), (3, .inl (v3)), (4, .inl (v4)), (5, .inl (v5))]) (st2 := [.inl (v4), .inl (r3.1)]) rfl ?_
        obtain ⟨r4, e4, h⟩ := sd_bnd h
        refine sd_b_call [.inl (v4)] [.inl (r3.1)] rfl rfl sd_i_J6_bitCount_0f7a4 rfl rfl (Nat.le_of_ble_eq_true rfl) rfl (m_J6_bitCount_0f7a4 (by omega) e4) ?_
        by_cases c5 : r4.1 ≤ r3.1
        · rw [if_pos c5] at h
          refine sd_b_ct (c := .ge) (tgt := 122) rfl (decide_eq_true c5) (by decide) ?_
          refine sd_b_wk [(0, .inr (.inr (some (0)))), (1, .inl (v1)), (2, .inl (v2)), (3, .inl (v3)), (4, .inl (v4)), (5, .inl (v5))] (List.forall_mem_cons.mpr ⟨rfl, (List.forall_mem_cons.mpr ⟨rfl, (List.forall_mem_cons.mpr ⟨rfl, (List.forall_mem_cons.mpr ⟨rfl, (List.forall_mem_cons.mpr ⟨rfl, (List.forall_mem_cons.mpr ⟨rfl, (fun _ h0 => absurd h0 List.not_mem_nil)⟩)⟩)⟩)⟩)⟩)⟩) ?_
          exact t_X9_half_122 hd (f_X9_half_70 k128 n) k128 ih hk128 v1 v2 v3 v4 v5 r4.2 _ h
        · rw [if_neg c5] at h
          refine sd_b_cf (c := .ge) rfl (decide_eq_false c5) (by decide) ?_
          refine sd_b_go 2 (pc2 := 102) (lv2 := [(0, .inr (.inr (some (0)))), (1, .inl (v1)), (2, .inl (v2)), (3, .inl (v3)), (4, .inl (v4)), (5, .inl (v5))]) (st2 := [.inr (.inr (some (0))), .inl (2)]) rfl ?_
          refine sd_b_gr (k := 5) sd_o_0 rfl rfl rfl ?_
          refine sd_b_gr (k := 1) sd_o_58 rfl rfl rfl ?_
          refine sd_b_go 1 (pc2 := 110) (lv2 := [(0, .inr (.inr (some (0)))), (1, .inl (v1)), (2, .inl (v2)), (3, .inl (v3)), (4, .inl (v4)), (5, .inl (v5))]) (st2 := [.inl (v5), .inr (.inr (some (66))), .inl (2)]) rfl ?_
          obtain ⟨r6, e6, h⟩ := sd_bnd h
          refine sd_b_call [.inr (.inr (some (66))), .inl (v5)] [.inl (2)] rfl rfl sd_i_X0_signedOf rfl rfl (Nat.le_of_ble_eq_true rfl) (sd_rc_v sd_o_66) (m_X0_signedOf (by omega) sd_o_66 e6) ?_
          refine sd_b_go 2 (pc2 := 115) (lv2 := [(0, .inr (.inr (some (0)))), (1, .inl (v1)), (2, .inl (v2)), (3, .inl (v3)), (4, .inl (v4)), (5, .inl (v5))]) (st2 := [.inl (v3), .inl (sd_w (2 * r6.1))]) rfl ?_
          by_cases c7 : (sd_w (2 * r6.1)) ≤ v3
          · rw [if_pos c7] at h
            refine sd_b_ct (c := .le) (tgt := 122) rfl (decide_eq_true c7) (by decide) ?_
            refine sd_b_wk [(0, .inr (.inr (some (0)))), (1, .inl (v1)), (2, .inl (v2)), (3, .inl (v3)), (4, .inl (v4)), (5, .inl (v5))] (List.forall_mem_cons.mpr ⟨rfl, (List.forall_mem_cons.mpr ⟨rfl, (List.forall_mem_cons.mpr ⟨rfl, (List.forall_mem_cons.mpr ⟨rfl, (List.forall_mem_cons.mpr ⟨rfl, (List.forall_mem_cons.mpr ⟨rfl, (fun _ h0 => absurd h0 List.not_mem_nil)⟩)⟩)⟩)⟩)⟩)⟩) ?_
            exact t_X9_half_122 hd (f_X9_half_70 k128 n) k128 ih hk128 v1 v2 v3 v4 v5 r6.2 _ h
          · rw [if_neg c7] at h
            refine sd_b_cf (c := .le) rfl (decide_eq_false c7) (by decide) ?_
            refine sd_b_go 2 (pc2 := 122) (lv2 := [(4, .inl (v5)), (0, .inr (.inr (some (0)))), (1, .inl (v1)), (2, .inl (v2)), (3, .inl (v3)), (5, .inl (v5))]) (st2 := []) rfl ?_
            refine sd_b_wk [(0, .inr (.inr (some (0)))), (1, .inl (v1)), (2, .inl (v2)), (3, .inl (v3)), (4, .inl (v5)), (5, .inl (v5))] (List.forall_mem_cons.mpr ⟨rfl, (List.forall_mem_cons.mpr ⟨rfl, (List.forall_mem_cons.mpr ⟨rfl, (List.forall_mem_cons.mpr ⟨rfl, (List.forall_mem_cons.mpr ⟨rfl, (List.forall_mem_cons.mpr ⟨rfl, (fun _ h0 => absurd h0 List.not_mem_nil)⟩)⟩)⟩)⟩)⟩)⟩) ?_
            exact t_X9_half_122 hd (f_X9_half_70 k128 n) k128 ih hk128 v1 v2 v3 v5 v5 r6.2 _ h
      · rw [if_neg c2] at h
        refine sd_b_zt (c := .ne) (tgt := 122) rfl (decide_eq_true c2) (by decide) ?_
        refine sd_b_wk [(0, .inr (.inr (some (0)))), (1, .inl (v1)), (2, .inl (v2)), (3, .inl (v3)), (4, .inl (v4)), (5, .inl (v5))] (List.forall_mem_cons.mpr ⟨rfl, (List.forall_mem_cons.mpr ⟨rfl, (List.forall_mem_cons.mpr ⟨rfl, (List.forall_mem_cons.mpr ⟨rfl, (List.forall_mem_cons.mpr ⟨rfl, (List.forall_mem_cons.mpr ⟨rfl, (fun _ h0 => absurd h0 List.not_mem_nil)⟩)⟩)⟩)⟩)⟩)⟩) ?_
        exact t_X9_half_122 hd (f_X9_half_70 k128 n) k128 ih hk128 v1 v2 v3 v4 v5 M _ h
def f_X9_half_128 (v1 : Int) (v4 : Int) (M : sd_M) : Option (Int × sd_M) := if v1 = 0 then ((f_J6_bitCount_0f7a4 v4 M).bind fun r2 => some (r2.1, r2.2)) else (some (v4, M))
set_option maxRecDepth 4000 in
theorem t_X9_half_128 {X : Nat → List sd_V → List sd_E → sd_A → Prop} {d : Nat} (hd : 2 ≤ d) (v1 : Int) (v4 : Int) (M : sd_M) (Rr : Int × sd_M) (h : f_X9_half_128 v1 v4 M = some Rr) : sd_B X d sd_q_X9_half 128 [(1, .inl (v1)), (4, .inl (v4))] [] M (some (.inl Rr.1), sd_rp Rr.2, 0, 0) := by
  unfold f_X9_half_128 at h
  refine sd_b_go 1 (pc2 := 129) (lv2 := [(1, .inl (v1)), (4, .inl (v4))]) (st2 := [.inl (v1)]) rfl ?_
  by_cases c1 : v1 = 0
  · rw [if_pos c1] at h
    refine sd_b_zf (c := .ne) rfl (decide_eq_false (not_not_intro c1)) (by decide) ?_
    refine sd_b_go 1 (pc2 := 134) (lv2 := [(1, .inl (v1)), (4, .inl (v4))]) (st2 := [.inl (v4)]) rfl ?_
    obtain ⟨r2, e2, h⟩ := sd_bnd h
    refine sd_b_call [.inl (v4)] [] rfl rfl sd_i_J6_bitCount_0f7a4 rfl rfl (Nat.le_of_ble_eq_true rfl) rfl (m_J6_bitCount_0f7a4 (by omega) e2) ?_
    refine sd_b_go 1 (pc2 := 142) (lv2 := [(1, .inl (v1)), (4, .inl (v4))]) (st2 := [.inl (r2.1)]) rfl ?_
    cases h
    exact sd_b_rt rfl rfl rfl
  · rw [if_neg c1] at h
    refine sd_b_zt (c := .ne) (tgt := 140) rfl (decide_eq_true c1) (by decide) ?_
    refine sd_b_go 1 (pc2 := 142) (lv2 := [(1, .inl (v1)), (4, .inl (v4))]) (st2 := [.inl (v4)]) rfl ?_
    cases h
    exact sd_b_rt rfl rfl rfl
def f_X9_half (p1 : Int) (M : sd_M) : Option (Int × sd_M) := if (M 59 0) = 0 then (some ((-1), M)) else (if p1 < 0 then (some ((-1), M)) else (if p1 ≤ 1 then (if 1 ≤ (M 66 3) then ((f_X0_lineBits 66 M).bind fun r5 => (f_X0_signedOf 66 r5.1 r5.2).bind fun r6 => f_X9_half_70 (f_X9_half_128) 4000 p1 r5.1 r6.1 r5.1 1 r6.2) else (some ((-2), M))) else (some ((-1), M))))
set_option maxRecDepth 4000 in
theorem t_X9_half {X : Nat → List sd_V → List sd_E → sd_A → Prop} {d : Nat} (hd : 2 ≤ d) (p1 : Int) (M : sd_M) (Rr : Int × sd_M) (h : f_X9_half p1 M = some Rr) : sd_B X d sd_q_X9_half 0 [(0, .inr (.inr (some (0)))), (1, .inl (p1))] [] M (some (.inl Rr.1), sd_rp Rr.2, 0, 0) := by
  unfold f_X9_half at h
  refine sd_b_go 1 (pc2 := 1) (lv2 := [(0, .inr (.inr (some (0)))), (1, .inl (p1))]) (st2 := [.inr (.inr (some (0)))]) rfl ?_
  refine sd_b_gr (k := 5) sd_o_0 rfl rfl rfl ?_
  refine sd_b_gr (k := 0) sd_o_58 rfl rfl rfl ?_
  refine sd_b_gi (k := 0) sd_o_59 rfl rfl rfl ?_
  by_cases c1 : (M 59 0) = 0
  · rw [if_pos c1] at h
    refine sd_b_zt (c := .eq) (tgt := 22) rfl (decide_eq_true c1) (by decide) ?_
    refine sd_b_go 1 (pc2 := 23) (lv2 := [(0, .inr (.inr (some (0)))), (1, .inl (p1))]) (st2 := [.inl ((-1))]) rfl ?_
    cases h
    exact sd_b_rt rfl rfl rfl
  · rw [if_neg c1] at h
    refine sd_b_zf (c := .eq) rfl (decide_eq_false c1) (by decide) ?_
    refine sd_b_go 1 (pc2 := 14) (lv2 := [(0, .inr (.inr (some (0)))), (1, .inl (p1))]) (st2 := [.inl (p1)]) rfl ?_
    by_cases c2 : p1 < 0
    · rw [if_pos c2] at h
      refine sd_b_zt (c := .lt) (tgt := 22) rfl (decide_eq_true c2) (by decide) ?_
      refine sd_b_go 1 (pc2 := 23) (lv2 := [(0, .inr (.inr (some (0)))), (1, .inl (p1))]) (st2 := [.inl ((-1))]) rfl ?_
      cases h
      exact sd_b_rt rfl rfl rfl
    · rw [if_neg c2] at h
      refine sd_b_zf (c := .lt) rfl (decide_eq_false c2) (by decide) ?_
      refine sd_b_go 2 (pc2 := 19) (lv2 := [(0, .inr (.inr (some (0)))), (1, .inl (p1))]) (st2 := [.inl (1), .inl (p1)]) rfl ?_
      by_cases c3 : p1 ≤ 1
      · rw [if_pos c3] at h
        refine sd_b_ct (c := .le) (tgt := 24) rfl (decide_eq_true c3) (by decide) ?_
        refine sd_b_go 1 (pc2 := 25) (lv2 := [(0, .inr (.inr (some (0)))), (1, .inl (p1))]) (st2 := [.inr (.inr (some (0)))]) rfl ?_
        refine sd_b_gr (k := 5) sd_o_0 rfl rfl rfl ?_
        refine sd_b_gr (k := 1) sd_o_58 rfl rfl rfl ?_
        refine sd_b_gi (k := 3) sd_o_66 rfl rfl rfl ?_
        refine sd_b_go 1 (pc2 := 35) (lv2 := [(0, .inr (.inr (some (0)))), (1, .inl (p1))]) (st2 := [.inl (1), .inl (M 66 3)]) rfl ?_
        by_cases c4 : 1 ≤ (M 66 3)
        · rw [if_pos c4] at h
          refine sd_b_ct (c := .ge) (tgt := 41) rfl (decide_eq_true c4) (by decide) ?_
          refine sd_b_go 1 (pc2 := 42) (lv2 := [(0, .inr (.inr (some (0)))), (1, .inl (p1))]) (st2 := [.inr (.inr (some (0)))]) rfl ?_
          refine sd_b_gr (k := 5) sd_o_0 rfl rfl rfl ?_
          refine sd_b_gr (k := 1) sd_o_58 rfl rfl rfl ?_
          obtain ⟨r5, e5, h⟩ := sd_bnd h
          refine sd_b_call [.inr (.inr (some (66)))] [] rfl rfl sd_i_X0_lineBits rfl rfl (Nat.le_of_ble_eq_true rfl) (sd_rc_v sd_o_66) (m_X0_lineBits (by omega) sd_o_66 e5) ?_
          refine sd_b_go 2 (pc2 := 53) (lv2 := [(2, .inl (r5.1)), (0, .inr (.inr (some (0)))), (1, .inl (p1))]) (st2 := [.inr (.inr (some (0)))]) rfl ?_
          refine sd_b_gr (k := 5) sd_o_0 rfl rfl rfl ?_
          refine sd_b_gr (k := 1) sd_o_58 rfl rfl rfl ?_
          refine sd_b_go 1 (pc2 := 60) (lv2 := [(2, .inl (r5.1)), (0, .inr (.inr (some (0)))), (1, .inl (p1))]) (st2 := [.inl (r5.1), .inr (.inr (some (66)))]) rfl ?_
          obtain ⟨r6, e6, h⟩ := sd_bnd h
          refine sd_b_call [.inr (.inr (some (66))), .inl (r5.1)] [] rfl rfl sd_i_X0_signedOf rfl rfl (Nat.le_of_ble_eq_true rfl) (sd_rc_v sd_o_66) (m_X0_signedOf (by omega) sd_o_66 e6) ?_
          refine sd_b_go 5 (pc2 := 70) (lv2 := [(5, .inl (1)), (4, .inl (r5.1)), (3, .inl (r6.1)), (2, .inl (r5.1)), (0, .inr (.inr (some (0)))), (1, .inl (p1))]) (st2 := []) rfl ?_
          refine sd_b_wk [(0, .inr (.inr (some (0)))), (1, .inl (p1)), (2, .inl (r5.1)), (3, .inl (r6.1)), (4, .inl (r5.1)), (5, .inl (1))] (List.forall_mem_cons.mpr ⟨rfl, (List.forall_mem_cons.mpr ⟨rfl, (List.forall_mem_cons.mpr ⟨rfl, (List.forall_mem_cons.mpr ⟨rfl, (List.forall_mem_cons.mpr ⟨rfl, (List.forall_mem_cons.mpr ⟨rfl, (fun _ h0 => absurd h0 List.not_mem_nil)⟩)⟩)⟩)⟩)⟩)⟩) ?_
          exact t_X9_half_70 hd (f_X9_half_128) (t_X9_half_128 hd) 4000 p1 r5.1 r6.1 r5.1 1 r6.2 _ h
        · rw [if_neg c4] at h
          refine sd_b_cf (c := .ge) rfl (decide_eq_false c4) (by decide) ?_
          refine sd_b_go 1 (pc2 := 40) (lv2 := [(0, .inr (.inr (some (0)))), (1, .inl (p1))]) (st2 := [.inl ((-2))]) rfl ?_
          cases h
          exact sd_b_rt rfl rfl rfl
      · rw [if_neg c3] at h
        refine sd_b_cf (c := .le) rfl (decide_eq_false c3) (by decide) ?_
        refine sd_b_go 1 (pc2 := 23) (lv2 := [(0, .inr (.inr (some (0)))), (1, .inl (p1))]) (st2 := [.inl ((-1))]) rfl ?_
        cases h
        exact sd_b_rt rfl rfl rfl
theorem m_X9_half {X : Nat → List sd_V → List sd_E → sd_A → Prop} {d : Nat} (hd : 3 ≤ d) {p1 : Int} {M : sd_M} {Rr : Int × sd_M} (h : f_X9_half p1 M = some Rr) : sd_Cal X d 96 [.inr (.inr (some (0))), .inl (p1)] (sd_rp M) (some (.inl Rr.1), sd_rp Rr.2, 0, 0) := by
  obtain ⟨d, rfl⟩ : ∃ d2, d = d2 + 1 := ⟨d - 1, by omega⟩
  exact sd_cal_of sd_i_X9_half (Nat.le_of_ble_eq_true rfl) (t_X9_half (by omega) p1 M Rr h)
-- X9_agree
def sd_q_X9_agree : sd_MI := (yX9_agree, cX9_agree, 7, (some .int), 9, 2, sd_t_X9_agree)
set_option maxRecDepth 4000 in
theorem sd_i_X9_agree : sd_mL[97]? = some sd_q_X9_agree := rfl
def f_X9_agree_120 (k74 : Int → Int → Int → Int → Int → sd_M → Option (Int × sd_M)) (k126 : Int → Int → sd_M → Option (Int × sd_M)) (v1 : Int) (v2 : Int) (v4 : Int) (v5 : Int) (v6 : Int) (M : sd_M) : Option (Int × sd_M) := k74 v1 v2 v4 v5 (sd_w (v6 + 1)) M
set_option maxRecDepth 4000 in
theorem t_X9_agree_120 {X : Nat → List sd_V → List sd_E → sd_A → Prop} {d : Nat} (hd : 3 ≤ d) (k74 : Int → Int → Int → Int → Int → sd_M → Option (Int × sd_M)) (k126 : Int → Int → sd_M → Option (Int × sd_M)) (hk74 : ∀ (v1 : Int) (v2 : Int) (v4 : Int) (v5 : Int) (v6 : Int) (M : sd_M) (Rr : Int × sd_M), k74 v1 v2 v4 v5 v6 M = some Rr → sd_B X d sd_q_X9_agree 74 [(0, .inr (.inr (some (0)))), (1, .inl (v1)), (2, .inl (v2)), (4, .inl (v4)), (5, .inl (v5)), (6, .inl (v6))] [] M (some (.inl Rr.1), sd_rp Rr.2, 0, 0)) (hk126 : ∀ (v2 : Int) (v5 : Int) (M : sd_M) (Rr : Int × sd_M), k126 v2 v5 M = some Rr → sd_B X d sd_q_X9_agree 126 [(2, .inl (v2)), (5, .inl (v5))] [] M (some (.inl Rr.1), sd_rp Rr.2, 0, 0)) (v1 : Int) (v2 : Int) (v4 : Int) (v5 : Int) (v6 : Int) (M : sd_M) (Rr : Int × sd_M) (h : f_X9_agree_120 k74 k126 v1 v2 v4 v5 v6 M = some Rr) : sd_B X d sd_q_X9_agree 120 [(0, .inr (.inr (some (0)))), (1, .inl (v1)), (2, .inl (v2)), (4, .inl (v4)), (5, .inl (v5)), (6, .inl (v6))] [] M (some (.inl Rr.1), sd_rp Rr.2, 0, 0) := by
  unfold f_X9_agree_120 at h
  refine sd_b_go 2 (pc2 := 74) (lv2 := [(6, .inl (sd_w (v6 + 1))), (0, .inr (.inr (some (0)))), (1, .inl (v1)), (2, .inl (v2)), (4, .inl (v4)), (5, .inl (v5))]) (st2 := []) rfl ?_
  refine sd_b_wk [(0, .inr (.inr (some (0)))), (1, .inl (v1)), (2, .inl (v2)), (4, .inl (v4)), (5, .inl (v5)), (6, .inl (sd_w (v6 + 1)))] (List.forall_mem_cons.mpr ⟨rfl, (List.forall_mem_cons.mpr ⟨rfl, (List.forall_mem_cons.mpr ⟨rfl, (List.forall_mem_cons.mpr ⟨rfl, (List.forall_mem_cons.mpr ⟨rfl, (List.forall_mem_cons.mpr ⟨rfl, (fun _ h0 => absurd h0 List.not_mem_nil)⟩)⟩)⟩)⟩)⟩)⟩) ?_
  exact hk74 v1 v2 v4 v5 (sd_w (v6 + 1)) M _ h
def f_X9_agree_74 (k126 : Int → Int → sd_M → Option (Int × sd_M)) : Nat → Int → Int → Int → Int → Int → sd_M → Option (Int × sd_M)
  | 0, _, _, _, _, _, _ => none
  | n + 1, v1, v2, v4, v5, v6, M => if 512 ≤ v6 then (k126 v2 v5 M) else (if (sd_and (v6) (sd_xor (v4) ((-1)))) = 0 then ((f_J6_bitCount_0f7a4 v6 M).bind fun r3 => (f_J6_bitCount_0f7a4 v5 r3.2).bind fun r4 => if r4.1 ≤ r3.1 then (f_X9_agree_120 (f_X9_agree_74 k126 n) k126 v1 v2 v4 v5 v6 r4.2) else ((f_X9_isAgreed (sd_or (v1) (v6)) r4.2).bind fun r6 => if r6.1 = 0 then (f_X9_agree_120 (f_X9_agree_74 k126 n) k126 v1 v2 v4 v5 v6 r6.2) else (f_X9_agree_120 (f_X9_agree_74 k126 n) k126 v1 v2 v4 v6 v6 r6.2))) else (f_X9_agree_120 (f_X9_agree_74 k126 n) k126 v1 v2 v4 v5 v6 M))
set_option maxRecDepth 4000 in
theorem t_X9_agree_74 {X : Nat → List sd_V → List sd_E → sd_A → Prop} {d : Nat} (hd : 3 ≤ d) (k126 : Int → Int → sd_M → Option (Int × sd_M)) (hk126 : ∀ (v2 : Int) (v5 : Int) (M : sd_M) (Rr : Int × sd_M), k126 v2 v5 M = some Rr → sd_B X d sd_q_X9_agree 126 [(2, .inl (v2)), (5, .inl (v5))] [] M (some (.inl Rr.1), sd_rp Rr.2, 0, 0)) : ∀ (n : Nat) (v1 : Int) (v2 : Int) (v4 : Int) (v5 : Int) (v6 : Int) (M : sd_M) (Rr : Int × sd_M), f_X9_agree_74 k126 n v1 v2 v4 v5 v6 M = some Rr → sd_B X d sd_q_X9_agree 74 [(0, .inr (.inr (some (0)))), (1, .inl (v1)), (2, .inl (v2)), (4, .inl (v4)), (5, .inl (v5)), (6, .inl (v6))] [] M (some (.inl Rr.1), sd_rp Rr.2, 0, 0) := by
  intro n
  induction n with
  | zero => intro v1 v2 v4 v5 v6 M Rr h; cases h
  | succ n ih =>
    intro v1 v2 v4 v5 v6 M Rr h
    rw [f_X9_agree_74] at h
    refine sd_b_go 2 (pc2 := 79) (lv2 := [(0, .inr (.inr (some (0)))), (1, .inl (v1)), (2, .inl (v2)), (4, .inl (v4)), (5, .inl (v5)), (6, .inl (v6))]) (st2 := [.inl (512), .inl (v6)]) rfl ?_
    by_cases c1 : 512 ≤ v6
    · rw [if_pos c1] at h
      refine sd_b_ct (c := .ge) (tgt := 126) rfl (decide_eq_true c1) (by decide) ?_
      refine sd_b_wk [(2, .inl (v2)), (5, .inl (v5))] (List.forall_mem_cons.mpr ⟨rfl, (List.forall_mem_cons.mpr ⟨rfl, (fun _ h0 => absurd h0 List.not_mem_nil)⟩)⟩) ?_
      exact hk126 v2 v5 M _ h
    · rw [if_neg c1] at h
      refine sd_b_cf (c := .ge) rfl (decide_eq_false c1) (by decide) ?_
      refine sd_b_go 5 (pc2 := 89) (lv2 := [(0, .inr (.inr (some (0)))), (1, .inl (v1)), (2, .inl (v2)), (4, .inl (v4)), (5, .inl (v5)), (6, .inl (v6))]) (st2 := [.inl (sd_and (v6) (sd_xor (v4) ((-1))))]) rfl ?_
      by_cases c2 : (sd_and (v6) (sd_xor (v4) ((-1)))) = 0
      · rw [if_pos c2] at h
        refine sd_b_zf (c := .ne) rfl (decide_eq_false (not_not_intro c2)) (by decide) ?_
        refine sd_b_go 1 (pc2 := 94) (lv2 := [(0, .inr (.inr (some (0)))), (1, .inl (v1)), (2, .inl (v2)), (4, .inl (v4)), (5, .inl (v5)), (6, .inl (v6))]) (st2 := [.inl (v6)]) rfl ?_
        obtain ⟨r3, e3, h⟩ := sd_bnd h
        refine sd_b_call [.inl (v6)] [] rfl rfl sd_i_J6_bitCount_0f7a4 rfl rfl (Nat.le_of_ble_eq_true rfl) rfl (m_J6_bitCount_0f7a4 (by omega) e3) ?_
        refine sd_b_go 1 (pc2 := 99) (lv2 := [(0, .inr (.inr (some (0)))), (1, .inl (v1)), (2, .inl (v2)), (4, .inl (v4)), (5, .inl (v5)), (6, .inl (v6))]) (st2 := [.inl (v5), .inl (r3.1)]) rfl ?_
        obtain ⟨r4, e4, h⟩ := sd_bnd h
        refine sd_b_call [.inl (v5)] [.inl (r3.1)] rfl rfl sd_i_J6_bitCount_0f7a4 rfl rfl (Nat.le_of_ble_eq_true rfl) rfl (m_J6_bitCount_0f7a4 (by omega) e4) ?_
        by_cases c5 : r4.1 ≤ r3.1
        · rw [if_pos c5] at h
          refine sd_b_ct (c := .ge) (tgt := 120) rfl (decide_eq_true c5) (by decide) ?_
          refine sd_b_wk [(0, .inr (.inr (some (0)))), (1, .inl (v1)), (2, .inl (v2)), (4, .inl (v4)), (5, .inl (v5)), (6, .inl (v6))] (List.forall_mem_cons.mpr ⟨rfl, (List.forall_mem_cons.mpr ⟨rfl, (List.forall_mem_cons.mpr ⟨rfl, (List.forall_mem_cons.mpr ⟨rfl, (List.forall_mem_cons.mpr ⟨rfl, (List.forall_mem_cons.mpr ⟨rfl, (fun _ h0 => absurd h0 List.not_mem_nil)⟩)⟩)⟩)⟩)⟩)⟩) ?_
          exact t_X9_agree_120 hd (f_X9_agree_74 k126 n) k126 ih hk126 v1 v2 v4 v5 v6 r4.2 _ h
        · rw [if_neg c5] at h
          refine sd_b_cf (c := .ge) rfl (decide_eq_false c5) (by decide) ?_
          refine sd_b_go 4 (pc2 := 110) (lv2 := [(0, .inr (.inr (some (0)))), (1, .inl (v1)), (2, .inl (v2)), (4, .inl (v4)), (5, .inl (v5)), (6, .inl (v6))]) (st2 := [.inl (sd_or (v1) (v6)), .inr (.inr (some (0)))]) rfl ?_
          obtain ⟨r6, e6, h⟩ := sd_bnd h
          refine sd_b_call [.inr (.inr (some (0))), .inl (sd_or (v1) (v6))] [] rfl rfl sd_i_X9_isAgreed rfl rfl (Nat.le_of_ble_eq_true rfl) (sd_rc_v sd_o_0) (m_X9_isAgreed (by omega) e6) ?_
          by_cases c7 : r6.1 = 0
          · rw [if_pos c7] at h
            refine sd_b_zt (c := .eq) (tgt := 120) rfl (decide_eq_true c7) (by decide) ?_
            refine sd_b_wk [(0, .inr (.inr (some (0)))), (1, .inl (v1)), (2, .inl (v2)), (4, .inl (v4)), (5, .inl (v5)), (6, .inl (v6))] (List.forall_mem_cons.mpr ⟨rfl, (List.forall_mem_cons.mpr ⟨rfl, (List.forall_mem_cons.mpr ⟨rfl, (List.forall_mem_cons.mpr ⟨rfl, (List.forall_mem_cons.mpr ⟨rfl, (List.forall_mem_cons.mpr ⟨rfl, (fun _ h0 => absurd h0 List.not_mem_nil)⟩)⟩)⟩)⟩)⟩)⟩) ?_
            exact t_X9_agree_120 hd (f_X9_agree_74 k126 n) k126 ih hk126 v1 v2 v4 v5 v6 r6.2 _ h
          · rw [if_neg c7] at h
            refine sd_b_zf (c := .eq) rfl (decide_eq_false c7) (by decide) ?_
            refine sd_b_go 2 (pc2 := 120) (lv2 := [(5, .inl (v6)), (0, .inr (.inr (some (0)))), (1, .inl (v1)), (2, .inl (v2)), (4, .inl (v4)), (6, .inl (v6))]) (st2 := []) rfl ?_
            refine sd_b_wk [(0, .inr (.inr (some (0)))), (1, .inl (v1)), (2, .inl (v2)), (4, .inl (v4)), (5, .inl (v6)), (6, .inl (v6))] (List.forall_mem_cons.mpr ⟨rfl, (List.forall_mem_cons.mpr ⟨rfl, (List.forall_mem_cons.mpr ⟨rfl, (List.forall_mem_cons.mpr ⟨rfl, (List.forall_mem_cons.mpr ⟨rfl, (List.forall_mem_cons.mpr ⟨rfl, (fun _ h0 => absurd h0 List.not_mem_nil)⟩)⟩)⟩)⟩)⟩)⟩) ?_
            exact t_X9_agree_120 hd (f_X9_agree_74 k126 n) k126 ih hk126 v1 v2 v4 v6 v6 r6.2 _ h
      · rw [if_neg c2] at h
        refine sd_b_zt (c := .ne) (tgt := 120) rfl (decide_eq_true c2) (by decide) ?_
        refine sd_b_wk [(0, .inr (.inr (some (0)))), (1, .inl (v1)), (2, .inl (v2)), (4, .inl (v4)), (5, .inl (v5)), (6, .inl (v6))] (List.forall_mem_cons.mpr ⟨rfl, (List.forall_mem_cons.mpr ⟨rfl, (List.forall_mem_cons.mpr ⟨rfl, (List.forall_mem_cons.mpr ⟨rfl, (List.forall_mem_cons.mpr ⟨rfl, (List.forall_mem_cons.mpr ⟨rfl, (fun _ h0 => absurd h0 List.not_mem_nil)⟩)⟩)⟩)⟩)⟩)⟩) ?_
        exact t_X9_agree_120 hd (f_X9_agree_74 k126 n) k126 ih hk126 v1 v2 v4 v5 v6 M _ h
def f_X9_agree_126 (v2 : Int) (v5 : Int) (M : sd_M) : Option (Int × sd_M) := if v2 = 0 then ((f_J6_bitCount_0f7a4 v5 M).bind fun r2 => some (r2.1, r2.2)) else (some (v5, M))
set_option maxRecDepth 4000 in
theorem t_X9_agree_126 {X : Nat → List sd_V → List sd_E → sd_A → Prop} {d : Nat} (hd : 3 ≤ d) (v2 : Int) (v5 : Int) (M : sd_M) (Rr : Int × sd_M) (h : f_X9_agree_126 v2 v5 M = some Rr) : sd_B X d sd_q_X9_agree 126 [(2, .inl (v2)), (5, .inl (v5))] [] M (some (.inl Rr.1), sd_rp Rr.2, 0, 0) := by
  unfold f_X9_agree_126 at h
  refine sd_b_go 1 (pc2 := 127) (lv2 := [(2, .inl (v2)), (5, .inl (v5))]) (st2 := [.inl (v2)]) rfl ?_
  by_cases c1 : v2 = 0
  · rw [if_pos c1] at h
    refine sd_b_zf (c := .ne) rfl (decide_eq_false (not_not_intro c1)) (by decide) ?_
    refine sd_b_go 1 (pc2 := 132) (lv2 := [(2, .inl (v2)), (5, .inl (v5))]) (st2 := [.inl (v5)]) rfl ?_
    obtain ⟨r2, e2, h⟩ := sd_bnd h
    refine sd_b_call [.inl (v5)] [] rfl rfl sd_i_J6_bitCount_0f7a4 rfl rfl (Nat.le_of_ble_eq_true rfl) rfl (m_J6_bitCount_0f7a4 (by omega) e2) ?_
    refine sd_b_go 1 (pc2 := 140) (lv2 := [(2, .inl (v2)), (5, .inl (v5))]) (st2 := [.inl (r2.1)]) rfl ?_
    cases h
    exact sd_b_rt rfl rfl rfl
  · rw [if_neg c1] at h
    refine sd_b_zt (c := .ne) (tgt := 138) rfl (decide_eq_true c1) (by decide) ?_
    refine sd_b_go 1 (pc2 := 140) (lv2 := [(2, .inl (v2)), (5, .inl (v5))]) (st2 := [.inl (v5)]) rfl ?_
    cases h
    exact sd_b_rt rfl rfl rfl
def f_X9_agree (p1 : Int) (p2 : Int) (M : sd_M) : Option (Int × sd_M) := (f_X0_lineBits 66 M).bind fun r1 => if (r1.2 59 0) = 0 then (some ((-1), r1.2)) else (if p2 < 0 then (some ((-1), r1.2)) else (if 1 < p2 then (some ((-1), r1.2)) else (if (sd_and (p1) (sd_xor (r1.1) ((-1)))) = 0 then (if 1 ≤ (r1.2 66 3) then (f_X9_agree_74 (f_X9_agree_126) 4000 p1 p2 (sd_and (r1.1) (sd_xor (p1) ((-1)))) (sd_and (r1.1) (sd_xor (p1) ((-1)))) 0 r1.2) else (some ((-2), r1.2))) else (some ((-1), r1.2)))))
set_option maxRecDepth 4000 in
theorem t_X9_agree {X : Nat → List sd_V → List sd_E → sd_A → Prop} {d : Nat} (hd : 3 ≤ d) (p1 : Int) (p2 : Int) (M : sd_M) (Rr : Int × sd_M) (h : f_X9_agree p1 p2 M = some Rr) : sd_B X d sd_q_X9_agree 0 [(0, .inr (.inr (some (0)))), (1, .inl (p1)), (2, .inl (p2))] [] M (some (.inl Rr.1), sd_rp Rr.2, 0, 0) := by
  unfold f_X9_agree at h
  refine sd_b_go 1 (pc2 := 1) (lv2 := [(0, .inr (.inr (some (0)))), (1, .inl (p1)), (2, .inl (p2))]) (st2 := [.inr (.inr (some (0)))]) rfl ?_
  refine sd_b_gr (k := 5) sd_o_0 rfl rfl rfl ?_
  refine sd_b_gr (k := 1) sd_o_58 rfl rfl rfl ?_
  obtain ⟨r1, e1, h⟩ := sd_bnd h
  refine sd_b_call [.inr (.inr (some (66)))] [] rfl rfl sd_i_X0_lineBits rfl rfl (Nat.le_of_ble_eq_true rfl) (sd_rc_v sd_o_66) (m_X0_lineBits (by omega) sd_o_66 e1) ?_
  refine sd_b_go 2 (pc2 := 12) (lv2 := [(3, .inl (r1.1)), (0, .inr (.inr (some (0)))), (1, .inl (p1)), (2, .inl (p2))]) (st2 := [.inr (.inr (some (0)))]) rfl ?_
  refine sd_b_gr (k := 5) sd_o_0 rfl rfl rfl ?_
  refine sd_b_gr (k := 0) sd_o_58 rfl rfl rfl ?_
  refine sd_b_gi (k := 0) sd_o_59 rfl rfl rfl ?_
  by_cases c2 : (r1.2 59 0) = 0
  · rw [if_pos c2] at h
    refine sd_b_zt (c := .eq) (tgt := 41) rfl (decide_eq_true c2) (by decide) ?_
    refine sd_b_go 1 (pc2 := 42) (lv2 := [(3, .inl (r1.1)), (0, .inr (.inr (some (0)))), (1, .inl (p1)), (2, .inl (p2))]) (st2 := [.inl ((-1))]) rfl ?_
    cases h
    exact sd_b_rt rfl rfl rfl
  · rw [if_neg c2] at h
    refine sd_b_zf (c := .eq) rfl (decide_eq_false c2) (by decide) ?_
    refine sd_b_go 1 (pc2 := 25) (lv2 := [(3, .inl (r1.1)), (0, .inr (.inr (some (0)))), (1, .inl (p1)), (2, .inl (p2))]) (st2 := [.inl (p2)]) rfl ?_
    by_cases c3 : p2 < 0
    · rw [if_pos c3] at h
      refine sd_b_zt (c := .lt) (tgt := 41) rfl (decide_eq_true c3) (by decide) ?_
      refine sd_b_go 1 (pc2 := 42) (lv2 := [(3, .inl (r1.1)), (0, .inr (.inr (some (0)))), (1, .inl (p1)), (2, .inl (p2))]) (st2 := [.inl ((-1))]) rfl ?_
      cases h
      exact sd_b_rt rfl rfl rfl
    · rw [if_neg c3] at h
      refine sd_b_zf (c := .lt) rfl (decide_eq_false c3) (by decide) ?_
      refine sd_b_go 2 (pc2 := 30) (lv2 := [(3, .inl (r1.1)), (0, .inr (.inr (some (0)))), (1, .inl (p1)), (2, .inl (p2))]) (st2 := [.inl (1), .inl (p2)]) rfl ?_
      by_cases c4 : 1 < p2
      · rw [if_pos c4] at h
        refine sd_b_ct (c := .gt) (tgt := 41) rfl (decide_eq_true c4) (by decide) ?_
        refine sd_b_go 1 (pc2 := 42) (lv2 := [(3, .inl (r1.1)), (0, .inr (.inr (some (0)))), (1, .inl (p1)), (2, .inl (p2))]) (st2 := [.inl ((-1))]) rfl ?_
        cases h
        exact sd_b_rt rfl rfl rfl
      · rw [if_neg c4] at h
        refine sd_b_cf (c := .gt) rfl (decide_eq_false c4) (by decide) ?_
        refine sd_b_go 5 (pc2 := 38) (lv2 := [(3, .inl (r1.1)), (0, .inr (.inr (some (0)))), (1, .inl (p1)), (2, .inl (p2))]) (st2 := [.inl (sd_and (p1) (sd_xor (r1.1) ((-1))))]) rfl ?_
        by_cases c5 : (sd_and (p1) (sd_xor (r1.1) ((-1)))) = 0
        · rw [if_pos c5] at h
          refine sd_b_zt (c := .eq) (tgt := 43) rfl (decide_eq_true c5) (by decide) ?_
          refine sd_b_go 1 (pc2 := 44) (lv2 := [(3, .inl (r1.1)), (0, .inr (.inr (some (0)))), (1, .inl (p1)), (2, .inl (p2))]) (st2 := [.inr (.inr (some (0)))]) rfl ?_
          refine sd_b_gr (k := 5) sd_o_0 rfl rfl rfl ?_
          refine sd_b_gr (k := 1) sd_o_58 rfl rfl rfl ?_
          refine sd_b_gi (k := 3) sd_o_66 rfl rfl rfl ?_
          refine sd_b_go 1 (pc2 := 54) (lv2 := [(3, .inl (r1.1)), (0, .inr (.inr (some (0)))), (1, .inl (p1)), (2, .inl (p2))]) (st2 := [.inl (1), .inl (r1.2 66 3)]) rfl ?_
          by_cases c6 : 1 ≤ (r1.2 66 3)
          · rw [if_pos c6] at h
            refine sd_b_ct (c := .ge) (tgt := 60) rfl (decide_eq_true c6) (by decide) ?_
            refine sd_b_go 10 (pc2 := 74) (lv2 := [(6, .inl (0)), (5, .inl (sd_and (r1.1) (sd_xor (p1) ((-1))))), (4, .inl (sd_and (r1.1) (sd_xor (p1) ((-1))))), (3, .inl (r1.1)), (0, .inr (.inr (some (0)))), (1, .inl (p1)), (2, .inl (p2))]) (st2 := []) rfl ?_
            refine sd_b_wk [(0, .inr (.inr (some (0)))), (1, .inl (p1)), (2, .inl (p2)), (4, .inl (sd_and (r1.1) (sd_xor (p1) ((-1))))), (5, .inl (sd_and (r1.1) (sd_xor (p1) ((-1))))), (6, .inl (0))] (List.forall_mem_cons.mpr ⟨rfl, (List.forall_mem_cons.mpr ⟨rfl, (List.forall_mem_cons.mpr ⟨rfl, (List.forall_mem_cons.mpr ⟨rfl, (List.forall_mem_cons.mpr ⟨rfl, (List.forall_mem_cons.mpr ⟨rfl, (fun _ h0 => absurd h0 List.not_mem_nil)⟩)⟩)⟩)⟩)⟩)⟩) ?_
            exact t_X9_agree_74 hd (f_X9_agree_126) (t_X9_agree_126 hd) 4000 p1 p2 (sd_and (r1.1) (sd_xor (p1) ((-1)))) (sd_and (r1.1) (sd_xor (p1) ((-1)))) 0 r1.2 _ h
          · rw [if_neg c6] at h
            refine sd_b_cf (c := .ge) rfl (decide_eq_false c6) (by decide) ?_
            refine sd_b_go 1 (pc2 := 59) (lv2 := [(3, .inl (r1.1)), (0, .inr (.inr (some (0)))), (1, .inl (p1)), (2, .inl (p2))]) (st2 := [.inl ((-2))]) rfl ?_
            cases h
            exact sd_b_rt rfl rfl rfl
        · rw [if_neg c5] at h
          refine sd_b_zf (c := .eq) rfl (decide_eq_false c5) (by decide) ?_
          refine sd_b_go 1 (pc2 := 42) (lv2 := [(3, .inl (r1.1)), (0, .inr (.inr (some (0)))), (1, .inl (p1)), (2, .inl (p2))]) (st2 := [.inl ((-1))]) rfl ?_
          cases h
          exact sd_b_rt rfl rfl rfl
theorem m_X9_agree {X : Nat → List sd_V → List sd_E → sd_A → Prop} {d : Nat} (hd : 4 ≤ d) {p1 : Int} {p2 : Int} {M : sd_M} {Rr : Int × sd_M} (h : f_X9_agree p1 p2 M = some Rr) : sd_Cal X d 97 [.inr (.inr (some (0))), .inl (p1), .inl (p2)] (sd_rp M) (some (.inl Rr.1), sd_rp Rr.2, 0, 0) := by
  obtain ⟨d, rfl⟩ : ∃ d2, d = d2 + 1 := ⟨d - 1, by omega⟩
  exact sd_cal_of sd_i_X9_agree (Nat.le_of_ble_eq_true rfl) (t_X9_agree (by omega) p1 p2 M Rr h)
-- X9_layRow
def sd_q_X9_layRow : sd_MI := (yX9_layRow, cX9_layRow, 8, none, 9, 2, sd_t_X9_layRow)
set_option maxRecDepth 4000 in
theorem sd_i_X9_layRow : sd_mL[100]? = some sd_q_X9_layRow := rfl
def f_X9_layRow_46 (k68 : Int → Int → Int → Int → Int → sd_M → Option (Int × sd_M)) : Nat → Int → Int → Int → Int → Int → Int → sd_M → Option (Int × sd_M)
  | 0, _, _, _, _, _, _, _ => none
  | n + 1, v2, v3, v4, v5, v6, v7, M => if (sd_w (v2 - v5)) ≤ v7 then (k68 v2 v3 v4 v5 v6 M) else (f_X9_layRow_46 k68 n v2 v3 v4 v5 (sd_w (v6 * v7)) (sd_w (v7 + 1)) M)
set_option maxRecDepth 4000 in
theorem t_X9_layRow_46 {X : Nat → List sd_V → List sd_E → sd_A → Prop} {d : Nat} (hd : 1 ≤ d) (k68 : Int → Int → Int → Int → Int → sd_M → Option (Int × sd_M)) (hk68 : ∀ (v2 : Int) (v3 : Int) (v4 : Int) (v5 : Int) (v6 : Int) (M : sd_M) (Rr : Int × sd_M), k68 v2 v3 v4 v5 v6 M = some Rr → sd_B X d sd_q_X9_layRow 68 [(0, .inr (.inr (some (0)))), (2, .inl (v2)), (3, .inl (v3)), (4, .inl (v4)), (5, .inl (v5)), (6, .inl (v6))] [] M (none, sd_rp Rr.2, 0, 0)) : ∀ (n : Nat) (v2 : Int) (v3 : Int) (v4 : Int) (v5 : Int) (v6 : Int) (v7 : Int) (M : sd_M) (Rr : Int × sd_M), f_X9_layRow_46 k68 n v2 v3 v4 v5 v6 v7 M = some Rr → sd_B X d sd_q_X9_layRow 46 [(0, .inr (.inr (some (0)))), (2, .inl (v2)), (3, .inl (v3)), (4, .inl (v4)), (5, .inl (v5)), (6, .inl (v6)), (7, .inl (v7))] [] M (none, sd_rp Rr.2, 0, 0) := by
  intro n
  induction n with
  | zero => intro v2 v3 v4 v5 v6 v7 M Rr h; cases h
  | succ n ih =>
    intro v2 v3 v4 v5 v6 v7 M Rr h
    rw [f_X9_layRow_46] at h
    refine sd_b_go 4 (pc2 := 52) (lv2 := [(0, .inr (.inr (some (0)))), (2, .inl (v2)), (3, .inl (v3)), (4, .inl (v4)), (5, .inl (v5)), (6, .inl (v6)), (7, .inl (v7))]) (st2 := [.inl (sd_w (v2 - v5)), .inl (v7)]) rfl ?_
    by_cases c1 : (sd_w (v2 - v5)) ≤ v7
    · rw [if_pos c1] at h
      refine sd_b_ct (c := .ge) (tgt := 68) rfl (decide_eq_true c1) (by decide) ?_
      refine sd_b_wk [(0, .inr (.inr (some (0)))), (2, .inl (v2)), (3, .inl (v3)), (4, .inl (v4)), (5, .inl (v5)), (6, .inl (v6))] (List.forall_mem_cons.mpr ⟨rfl, (List.forall_mem_cons.mpr ⟨rfl, (List.forall_mem_cons.mpr ⟨rfl, (List.forall_mem_cons.mpr ⟨rfl, (List.forall_mem_cons.mpr ⟨rfl, (List.forall_mem_cons.mpr ⟨rfl, (fun _ h0 => absurd h0 List.not_mem_nil)⟩)⟩)⟩)⟩)⟩)⟩) ?_
      exact hk68 v2 v3 v4 v5 v6 M _ h
    · rw [if_neg c1] at h
      refine sd_b_cf (c := .ge) rfl (decide_eq_false c1) (by decide) ?_
      refine sd_b_go 6 (pc2 := 46) (lv2 := [(7, .inl (sd_w (v7 + 1))), (6, .inl (sd_w (v6 * v7))), (0, .inr (.inr (some (0)))), (2, .inl (v2)), (3, .inl (v3)), (4, .inl (v4)), (5, .inl (v5))]) (st2 := []) rfl ?_
      refine sd_b_wk [(0, .inr (.inr (some (0)))), (2, .inl (v2)), (3, .inl (v3)), (4, .inl (v4)), (5, .inl (v5)), (6, .inl (sd_w (v6 * v7))), (7, .inl (sd_w (v7 + 1)))] (List.forall_mem_cons.mpr ⟨rfl, (List.forall_mem_cons.mpr ⟨rfl, (List.forall_mem_cons.mpr ⟨rfl, (List.forall_mem_cons.mpr ⟨rfl, (List.forall_mem_cons.mpr ⟨rfl, (List.forall_mem_cons.mpr ⟨rfl, (List.forall_mem_cons.mpr ⟨rfl, (fun _ h0 => absurd h0 List.not_mem_nil)⟩)⟩)⟩)⟩)⟩)⟩)⟩) ?_
      exact ih v2 v3 v4 v5 (sd_w (v6 * v7)) (sd_w (v7 + 1)) M _ h
def f_X9_layRow_82 (k28 : Int → Int → Int → Int → sd_M → Option (Int × sd_M)) (v2 : Int) (v3 : Int) (v4 : Int) (v5 : Int) (v6 : Int) (s0 : Int) (M : sd_M) : Option (Int × sd_M) := (f_X9_nthBit v3 s0 M).bind fun r1 => if 0 ≤ v5 ∧ v5 < 4 then (if 0 ≤ v5 ∧ v5 < 4 then (k28 v2 (sd_and (v3) (sd_xor (sd_shl (1) ((sd_s r1.2 327 v5.toNat r1.1) 327 v5.toNat)) ((-1)))) (sd_w (v4 - (sd_w (s0 * v6)))) (sd_w (v5 + 1)) (sd_s r1.2 327 v5.toNat r1.1)) else none) else none
set_option maxRecDepth 4000 in
theorem t_X9_layRow_82 {X : Nat → List sd_V → List sd_E → sd_A → Prop} {d : Nat} (hd : 1 ≤ d) (k28 : Int → Int → Int → Int → sd_M → Option (Int × sd_M)) (hk28 : ∀ (v2 : Int) (v3 : Int) (v4 : Int) (v5 : Int) (M : sd_M) (Rr : Int × sd_M), k28 v2 v3 v4 v5 M = some Rr → sd_B X d sd_q_X9_layRow 28 [(0, .inr (.inr (some (0)))), (2, .inl (v2)), (3, .inl (v3)), (4, .inl (v4)), (5, .inl (v5))] [] M (none, sd_rp Rr.2, 0, 0)) (v2 : Int) (v3 : Int) (v4 : Int) (v5 : Int) (v6 : Int) (s0 : Int) (M : sd_M) (Rr : Int × sd_M) (h : f_X9_layRow_82 k28 v2 v3 v4 v5 v6 s0 M = some Rr) : sd_B X d sd_q_X9_layRow 82 [(0, .inr (.inr (some (0)))), (2, .inl (v2)), (3, .inl (v3)), (4, .inl (v4)), (5, .inl (v5)), (6, .inl (v6))] [.inl (s0)] M (none, sd_rp Rr.2, 0, 0) := by
  unfold f_X9_layRow_82 at h
  refine sd_b_go 2 (pc2 := 85) (lv2 := [(7, .inl (s0)), (0, .inr (.inr (some (0)))), (2, .inl (v2)), (3, .inl (v3)), (4, .inl (v4)), (5, .inl (v5)), (6, .inl (v6))]) (st2 := [.inr (.inr (some (0)))]) rfl ?_
  refine sd_b_gr (k := 14) sd_o_0 rfl rfl rfl ?_
  refine sd_b_go 3 (pc2 := 93) (lv2 := [(7, .inl (s0)), (0, .inr (.inr (some (0)))), (2, .inl (v2)), (3, .inl (v3)), (4, .inl (v4)), (5, .inl (v5)), (6, .inl (v6))]) (st2 := [.inl (s0), .inl (v3), .inl (v5), .inr (.inr (some (327)))]) rfl ?_
  obtain ⟨r1, e1, h⟩ := sd_bnd h
  refine sd_b_call [.inl (v3), .inl (s0)] [.inl (v5), .inr (.inr (some (327)))] rfl rfl sd_i_X9_nthBit rfl rfl (Nat.le_of_ble_eq_true rfl) rfl (m_X9_nthBit (by omega) e1) ?_
  obtain ⟨g2, h⟩ := sd_if h
  refine sd_b_si (sd_oa sd_o_0 (by decide) (off := 327) (List.mem_of_getElem? (i := 2) rfl)) g2 rfl ?_
  refine sd_b_go 3 (pc2 := 100) (lv2 := [(7, .inl (s0)), (0, .inr (.inr (some (0)))), (2, .inl (v2)), (3, .inl (v3)), (4, .inl (v4)), (5, .inl (v5)), (6, .inl (v6))]) (st2 := [.inr (.inr (some (0))), .inl (1), .inl (v3)]) rfl ?_
  refine sd_b_gr (k := 14) sd_o_0 rfl rfl rfl ?_
  refine sd_b_go 1 (pc2 := 105) (lv2 := [(7, .inl (s0)), (0, .inr (.inr (some (0)))), (2, .inl (v2)), (3, .inl (v3)), (4, .inl (v4)), (5, .inl (v5)), (6, .inl (v6))]) (st2 := [.inl (v5), .inr (.inr (some (327))), .inl (1), .inl (v3)]) rfl ?_
  obtain ⟨g3, h⟩ := sd_if h
  refine sd_b_ai (sd_oa sd_o_0 (by decide) (off := 327) (List.mem_of_getElem? (i := 2) rfl)) g3 rfl ?_
  refine sd_b_go 13 (pc2 := 28) (lv2 := [(5, .inl (sd_w (v5 + 1))), (4, .inl (sd_w (v4 - (sd_w (s0 * v6))))), (3, .inl (sd_and (v3) (sd_xor (sd_shl (1) ((sd_s r1.2 327 v5.toNat r1.1) 327 v5.toNat)) ((-1))))), (7, .inl (s0)), (0, .inr (.inr (some (0)))), (2, .inl (v2)), (6, .inl (v6))]) (st2 := []) rfl ?_
  refine sd_b_wk [(0, .inr (.inr (some (0)))), (2, .inl (v2)), (3, .inl (sd_and (v3) (sd_xor (sd_shl (1) ((sd_s r1.2 327 v5.toNat r1.1) 327 v5.toNat)) ((-1))))), (4, .inl (sd_w (v4 - (sd_w (s0 * v6))))), (5, .inl (sd_w (v5 + 1)))] (List.forall_mem_cons.mpr ⟨rfl, (List.forall_mem_cons.mpr ⟨rfl, (List.forall_mem_cons.mpr ⟨rfl, (List.forall_mem_cons.mpr ⟨rfl, (List.forall_mem_cons.mpr ⟨rfl, (fun _ h0 => absurd h0 List.not_mem_nil)⟩)⟩)⟩)⟩)⟩) ?_
  exact hk28 v2 (sd_and (v3) (sd_xor (sd_shl (1) ((sd_s r1.2 327 v5.toNat r1.1) 327 v5.toNat)) ((-1)))) (sd_w (v4 - (sd_w (s0 * v6)))) (sd_w (v5 + 1)) (sd_s r1.2 327 v5.toNat r1.1) _ h
def f_X9_layRow_68 (k28 : Int → Int → Int → Int → sd_M → Option (Int × sd_M)) (v2 : Int) (v3 : Int) (v4 : Int) (v5 : Int) (v6 : Int) (M : sd_M) : Option (Int × sd_M) := if v6 ≤ 0 then (f_X9_layRow_82 k28 v2 v3 v4 v5 v6 0 M) else (if v6 ≠ 0 then (f_X9_layRow_82 k28 v2 v3 v4 v5 v6 (sd_w (Int.tdiv v4 v6)) M) else none)
set_option maxRecDepth 4000 in
theorem t_X9_layRow_68 {X : Nat → List sd_V → List sd_E → sd_A → Prop} {d : Nat} (hd : 1 ≤ d) (k28 : Int → Int → Int → Int → sd_M → Option (Int × sd_M)) (hk28 : ∀ (v2 : Int) (v3 : Int) (v4 : Int) (v5 : Int) (M : sd_M) (Rr : Int × sd_M), k28 v2 v3 v4 v5 M = some Rr → sd_B X d sd_q_X9_layRow 28 [(0, .inr (.inr (some (0)))), (2, .inl (v2)), (3, .inl (v3)), (4, .inl (v4)), (5, .inl (v5))] [] M (none, sd_rp Rr.2, 0, 0)) (v2 : Int) (v3 : Int) (v4 : Int) (v5 : Int) (v6 : Int) (M : sd_M) (Rr : Int × sd_M) (h : f_X9_layRow_68 k28 v2 v3 v4 v5 v6 M = some Rr) : sd_B X d sd_q_X9_layRow 68 [(0, .inr (.inr (some (0)))), (2, .inl (v2)), (3, .inl (v3)), (4, .inl (v4)), (5, .inl (v5)), (6, .inl (v6))] [] M (none, sd_rp Rr.2, 0, 0) := by
  unfold f_X9_layRow_68 at h
  refine sd_b_go 1 (pc2 := 70) (lv2 := [(0, .inr (.inr (some (0)))), (2, .inl (v2)), (3, .inl (v3)), (4, .inl (v4)), (5, .inl (v5)), (6, .inl (v6))]) (st2 := [.inl (v6)]) rfl ?_
  by_cases c1 : v6 ≤ 0
  · rw [if_pos c1] at h
    refine sd_b_zt (c := .le) (tgt := 81) rfl (decide_eq_true c1) (by decide) ?_
    refine sd_b_go 1 (pc2 := 82) (lv2 := [(0, .inr (.inr (some (0)))), (2, .inl (v2)), (3, .inl (v3)), (4, .inl (v4)), (5, .inl (v5)), (6, .inl (v6))]) (st2 := [.inl (0)]) rfl ?_
    refine sd_b_wk [(0, .inr (.inr (some (0)))), (2, .inl (v2)), (3, .inl (v3)), (4, .inl (v4)), (5, .inl (v5)), (6, .inl (v6))] (List.forall_mem_cons.mpr ⟨rfl, (List.forall_mem_cons.mpr ⟨rfl, (List.forall_mem_cons.mpr ⟨rfl, (List.forall_mem_cons.mpr ⟨rfl, (List.forall_mem_cons.mpr ⟨rfl, (List.forall_mem_cons.mpr ⟨rfl, (fun _ h0 => absurd h0 List.not_mem_nil)⟩)⟩)⟩)⟩)⟩)⟩) ?_
    exact t_X9_layRow_82 hd k28 hk28 v2 v3 v4 v5 v6 0 M _ h
  · rw [if_neg c1] at h
    refine sd_b_zf (c := .le) rfl (decide_eq_false c1) (by decide) ?_
    refine sd_b_go 2 (pc2 := 77) (lv2 := [(0, .inr (.inr (some (0)))), (2, .inl (v2)), (3, .inl (v3)), (4, .inl (v4)), (5, .inl (v5)), (6, .inl (v6))]) (st2 := [.inl (v6), .inl (v4)]) rfl ?_
    obtain ⟨g2, h⟩ := sd_if h
    refine sd_b_dz g2 rfl rfl ?_
    refine sd_b_go 1 (pc2 := 82) (lv2 := [(0, .inr (.inr (some (0)))), (2, .inl (v2)), (3, .inl (v3)), (4, .inl (v4)), (5, .inl (v5)), (6, .inl (v6))]) (st2 := [.inl (sd_w (Int.tdiv v4 v6))]) rfl ?_
    refine sd_b_wk [(0, .inr (.inr (some (0)))), (2, .inl (v2)), (3, .inl (v3)), (4, .inl (v4)), (5, .inl (v5)), (6, .inl (v6))] (List.forall_mem_cons.mpr ⟨rfl, (List.forall_mem_cons.mpr ⟨rfl, (List.forall_mem_cons.mpr ⟨rfl, (List.forall_mem_cons.mpr ⟨rfl, (List.forall_mem_cons.mpr ⟨rfl, (List.forall_mem_cons.mpr ⟨rfl, (fun _ h0 => absurd h0 List.not_mem_nil)⟩)⟩)⟩)⟩)⟩)⟩) ?_
    exact t_X9_layRow_82 hd k28 hk28 v2 v3 v4 v5 v6 (sd_w (Int.tdiv v4 v6)) M _ h
def f_X9_layRow_28 : Nat → Int → Int → Int → Int → sd_M → Option (Int × sd_M)
  | 0, _, _, _, _, _ => none
  | n + 1, v2, v3, v4, v5, M => if v2 ≤ v5 then (some (0, M)) else (if 4 ≤ v5 then (some (0, M)) else (f_X9_layRow_46 (f_X9_layRow_68 (f_X9_layRow_28 n)) 4000 v2 v3 v4 v5 1 2 M))
set_option maxRecDepth 4000 in
theorem t_X9_layRow_28 {X : Nat → List sd_V → List sd_E → sd_A → Prop} {d : Nat} (hd : 1 ≤ d) : ∀ (n : Nat) (v2 : Int) (v3 : Int) (v4 : Int) (v5 : Int) (M : sd_M) (Rr : Int × sd_M), f_X9_layRow_28 n v2 v3 v4 v5 M = some Rr → sd_B X d sd_q_X9_layRow 28 [(0, .inr (.inr (some (0)))), (2, .inl (v2)), (3, .inl (v3)), (4, .inl (v4)), (5, .inl (v5))] [] M (none, sd_rp Rr.2, 0, 0) := by
  intro n
  induction n with
  | zero => intro v2 v3 v4 v5 M Rr h; cases h
  | succ n ih =>
    intro v2 v3 v4 v5 M Rr h
    rw [f_X9_layRow_28] at h
    refine sd_b_go 2 (pc2 := 31) (lv2 := [(0, .inr (.inr (some (0)))), (2, .inl (v2)), (3, .inl (v3)), (4, .inl (v4)), (5, .inl (v5))]) (st2 := [.inl (v2), .inl (v5)]) rfl ?_
    by_cases c1 : v2 ≤ v5
    · rw [if_pos c1] at h
      refine sd_b_ct (c := .ge) (tgt := 127) rfl (decide_eq_true c1) (by decide) ?_
      cases h
      exact sd_b_rt rfl rfl rfl
    · rw [if_neg c1] at h
      refine sd_b_cf (c := .ge) rfl (decide_eq_false c1) (by decide) ?_
      refine sd_b_go 2 (pc2 := 37) (lv2 := [(0, .inr (.inr (some (0)))), (2, .inl (v2)), (3, .inl (v3)), (4, .inl (v4)), (5, .inl (v5))]) (st2 := [.inl (4), .inl (v5)]) rfl ?_
      by_cases c2 : 4 ≤ v5
      · rw [if_pos c2] at h
        refine sd_b_ct (c := .ge) (tgt := 127) rfl (decide_eq_true c2) (by decide) ?_
        cases h
        exact sd_b_rt rfl rfl rfl
      · rw [if_neg c2] at h
        refine sd_b_cf (c := .ge) rfl (decide_eq_false c2) (by decide) ?_
        refine sd_b_go 4 (pc2 := 46) (lv2 := [(7, .inl (2)), (6, .inl (1)), (0, .inr (.inr (some (0)))), (2, .inl (v2)), (3, .inl (v3)), (4, .inl (v4)), (5, .inl (v5))]) (st2 := []) rfl ?_
        refine sd_b_wk [(0, .inr (.inr (some (0)))), (2, .inl (v2)), (3, .inl (v3)), (4, .inl (v4)), (5, .inl (v5)), (6, .inl (1)), (7, .inl (2))] (List.forall_mem_cons.mpr ⟨rfl, (List.forall_mem_cons.mpr ⟨rfl, (List.forall_mem_cons.mpr ⟨rfl, (List.forall_mem_cons.mpr ⟨rfl, (List.forall_mem_cons.mpr ⟨rfl, (List.forall_mem_cons.mpr ⟨rfl, (List.forall_mem_cons.mpr ⟨rfl, (fun _ h0 => absurd h0 List.not_mem_nil)⟩)⟩)⟩)⟩)⟩)⟩)⟩) ?_
        exact t_X9_layRow_46 hd (f_X9_layRow_68 (f_X9_layRow_28 n)) (t_X9_layRow_68 hd (f_X9_layRow_28 n) ih) 4000 v2 v3 v4 v5 1 2 M _ h
def f_X9_layRow (p1 : Int) (p2 : Int) (M : sd_M) : Option (Int × sd_M) := (f_X0_bitsWhere 66 0 (M 59 2) M).bind fun r1 => f_X9_layRow_28 4000 p2 r1.1 p1 0 r1.2
set_option maxRecDepth 4000 in
theorem t_X9_layRow {X : Nat → List sd_V → List sd_E → sd_A → Prop} {d : Nat} (hd : 1 ≤ d) (p1 : Int) (p2 : Int) (M : sd_M) (Rr : Int × sd_M) (h : f_X9_layRow p1 p2 M = some Rr) : sd_B X d sd_q_X9_layRow 0 [(0, .inr (.inr (some (0)))), (1, .inl (p1)), (2, .inl (p2))] [] M (none, sd_rp Rr.2, 0, 0) := by
  unfold f_X9_layRow at h
  refine sd_b_go 1 (pc2 := 1) (lv2 := [(0, .inr (.inr (some (0)))), (1, .inl (p1)), (2, .inl (p2))]) (st2 := [.inr (.inr (some (0)))]) rfl ?_
  refine sd_b_gr (k := 5) sd_o_0 rfl rfl rfl ?_
  refine sd_b_gr (k := 1) sd_o_58 rfl rfl rfl ?_
  refine sd_b_go 2 (pc2 := 9) (lv2 := [(0, .inr (.inr (some (0)))), (1, .inl (p1)), (2, .inl (p2))]) (st2 := [.inr (.inr (some (0))), .inl (0), .inr (.inr (some (66)))]) rfl ?_
  refine sd_b_gr (k := 5) sd_o_0 rfl rfl rfl ?_
  refine sd_b_gr (k := 0) sd_o_58 rfl rfl rfl ?_
  refine sd_b_gi (k := 2) sd_o_59 rfl rfl rfl ?_
  obtain ⟨r1, e1, h⟩ := sd_bnd h
  refine sd_b_call [.inr (.inr (some (66))), .inl (0), .inl (M 59 2)] [] rfl rfl sd_i_X0_bitsWhere rfl rfl (Nat.le_of_ble_eq_true rfl) (sd_rc_v sd_o_66) (m_X0_bitsWhere (by omega) sd_o_66 e1) ?_
  refine sd_b_go 5 (pc2 := 28) (lv2 := [(5, .inl (0)), (4, .inl (p1)), (3, .inl (r1.1)), (0, .inr (.inr (some (0)))), (1, .inl (p1)), (2, .inl (p2))]) (st2 := []) rfl ?_
  refine sd_b_wk [(0, .inr (.inr (some (0)))), (2, .inl (p2)), (3, .inl (r1.1)), (4, .inl (p1)), (5, .inl (0))] (List.forall_mem_cons.mpr ⟨rfl, (List.forall_mem_cons.mpr ⟨rfl, (List.forall_mem_cons.mpr ⟨rfl, (List.forall_mem_cons.mpr ⟨rfl, (List.forall_mem_cons.mpr ⟨rfl, (fun _ h0 => absurd h0 List.not_mem_nil)⟩)⟩)⟩)⟩)⟩) ?_
  exact t_X9_layRow_28 hd 4000 p2 r1.1 p1 0 r1.2 _ h
theorem m_X9_layRow {X : Nat → List sd_V → List sd_E → sd_A → Prop} {d : Nat} (hd : 2 ≤ d) {p1 : Int} {p2 : Int} {M : sd_M} {Rr : Int × sd_M} (h : f_X9_layRow p1 p2 M = some Rr) : sd_Cal X d 100 [.inr (.inr (some (0))), .inl (p1), .inl (p2)] (sd_rp M) (none, sd_rp Rr.2, 0, 0) := by
  obtain ⟨d, rfl⟩ : ∃ d2, d = d2 + 1 := ⟨d - 1, by omega⟩
  exact sd_cal_of sd_i_X9_layRow (Nat.le_of_ble_eq_true rfl) (t_X9_layRow (by omega) p1 p2 M Rr h)
