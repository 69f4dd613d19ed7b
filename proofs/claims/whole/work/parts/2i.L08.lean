-- X9_seasons
def sd_q_X9_seasons : sd_MI := (yX9_seasons, cX9_seasons, 10, (some .int), 9, 4, sd_t_X9_seasons)
set_option maxRecDepth 4000 in
theorem sd_i_X9_seasons : sd_mL[106]? = some sd_q_X9_seasons := rfl
def f_X9_seasons_108 (k148 : Int → Int → Int → Int → Int → Int → Int → sd_M → Option (Int × sd_M)) : Nat → Int → Int → Int → Int → Int → Int → Int → Int → sd_M → Option (Int × sd_M)
  | 0, _, _, _, _, _, _, _, _, _ => none
  | n + 1, v1, v2, v3, v4, v6, v7, v8, v9, M => if v2 ≤ v9 then (k148 v1 v2 v3 v4 v6 v7 v8 M) else ((f_X9_drawCancelling v3 M).bind fun r2 => (f_X9_ruleInForce r2.2).bind fun r3 => (f_X1_pass 318 r3.1 r3.2).bind fun r4 => f_X9_seasons_108 k148 n v1 v2 v3 v4 v6 v7 v8 (sd_w (v9 + 1)) r4.2)
set_option maxRecDepth 4000 in
theorem t_X9_seasons_108 {X : Nat → List sd_V → List sd_E → sd_A → Prop} {d : Nat} (hd : 7 ≤ d) (k148 : Int → Int → Int → Int → Int → Int → Int → sd_M → Option (Int × sd_M)) (hk148 : ∀ (v1 : Int) (v2 : Int) (v3 : Int) (v4 : Int) (v6 : Int) (v7 : Int) (v8 : Int) (M : sd_M) (Rr : Int × sd_M), k148 v1 v2 v3 v4 v6 v7 v8 M = some Rr → sd_B X d sd_q_X9_seasons 148 [(0, .inr (.inr (some (0)))), (1, .inl (v1)), (2, .inl (v2)), (3, .inl (v3)), (4, .inl (v4)), (6, .inl (v6)), (7, .inl (v7)), (8, .inl (v8))] [] M (some (.inl Rr.1), sd_rp Rr.2, 0, 0)) : ∀ (n : Nat) (v1 : Int) (v2 : Int) (v3 : Int) (v4 : Int) (v6 : Int) (v7 : Int) (v8 : Int) (v9 : Int) (M : sd_M) (Rr : Int × sd_M), f_X9_seasons_108 k148 n v1 v2 v3 v4 v6 v7 v8 v9 M = some Rr → sd_B X d sd_q_X9_seasons 108 [(0, .inr (.inr (some (0)))), (1, .inl (v1)), (2, .inl (v2)), (3, .inl (v3)), (4, .inl (v4)), (6, .inl (v6)), (7, .inl (v7)), (8, .inl (v8)), (9, .inl (v9))] [] M (some (.inl Rr.1), sd_rp Rr.2, 0, 0) := by
  intro n
  induction n with
  | zero => intro v1 v2 v3 v4 v6 v7 v8 v9 M Rr h; cases h
  | succ n ih =>
    intro v1 v2 v3 v4 v6 v7 v8 v9 M Rr h
    rw [f_X9_seasons_108] at h
    refine sd_b_go 2 (pc2 := 111) (lv2 := [(0, .inr (.inr (some (0)))), (1, .inl (v1)), (2, .inl (v2)), (3, .inl (v3)), (4, .inl (v4)), (6, .inl (v6)), (7, .inl (v7)), (8, .inl (v8)), (9, .inl (v9))]) (st2 := [.inl (v2), .inl (v9)]) rfl ?_
    by_cases c1 : v2 ≤ v9
    · rw [if_pos c1] at h
      refine sd_b_ct (c := .ge) (tgt := 148) rfl (decide_eq_true c1) (by decide) ?_
      refine sd_b_wk [(0, .inr (.inr (some (0)))), (1, .inl (v1)), (2, .inl (v2)), (3, .inl (v3)), (4, .inl (v4)), (6, .inl (v6)), (7, .inl (v7)), (8, .inl (v8))] (List.forall_mem_cons.mpr ⟨rfl, (List.forall_mem_cons.mpr ⟨rfl, (List.forall_mem_cons.mpr ⟨rfl, (List.forall_mem_cons.mpr ⟨rfl, (List.forall_mem_cons.mpr ⟨rfl, (List.forall_mem_cons.mpr ⟨rfl, (List.forall_mem_cons.mpr ⟨rfl, (List.forall_mem_cons.mpr ⟨rfl, (fun _ h0 => absurd h0 List.not_mem_nil)⟩)⟩)⟩)⟩)⟩)⟩)⟩)⟩) ?_
      exact hk148 v1 v2 v3 v4 v6 v7 v8 M _ h
    · rw [if_neg c1] at h
      refine sd_b_cf (c := .ge) rfl (decide_eq_false c1) (by decide) ?_
      refine sd_b_go 2 (pc2 := 116) (lv2 := [(0, .inr (.inr (some (0)))), (1, .inl (v1)), (2, .inl (v2)), (3, .inl (v3)), (4, .inl (v4)), (6, .inl (v6)), (7, .inl (v7)), (8, .inl (v8)), (9, .inl (v9))]) (st2 := [.inl (v3), .inr (.inr (some (0)))]) rfl ?_
      obtain ⟨r2, e2, h⟩ := sd_bnd h
      refine sd_b_call [.inr (.inr (some (0))), .inl (v3)] [] rfl rfl sd_i_X9_drawCancelling rfl rfl (Nat.le_of_ble_eq_true rfl) (sd_rc_v sd_o_0) (m_X9_drawCancelling (by omega) e2) ?_
      refine sd_b_go 1 (pc2 := 120) (lv2 := [(0, .inr (.inr (some (0)))), (1, .inl (v1)), (2, .inl (v2)), (3, .inl (v3)), (4, .inl (v4)), (6, .inl (v6)), (7, .inl (v7)), (8, .inl (v8)), (9, .inl (v9))]) (st2 := [.inr (.inr (some (0)))]) rfl ?_
      refine sd_b_gr (k := 11) sd_o_0 rfl rfl rfl ?_
      refine sd_b_go 1 (pc2 := 124) (lv2 := [(0, .inr (.inr (some (0)))), (1, .inl (v1)), (2, .inl (v2)), (3, .inl (v3)), (4, .inl (v4)), (6, .inl (v6)), (7, .inl (v7)), (8, .inl (v8)), (9, .inl (v9))]) (st2 := [.inr (.inr (some (0))), .inr (.inr (some (316)))]) rfl ?_
      refine sd_b_gr (k := 12) sd_o_0 rfl rfl rfl ?_
      refine sd_b_go 1 (pc2 := 128) (lv2 := [(0, .inr (.inr (some (0)))), (1, .inl (v1)), (2, .inl (v2)), (3, .inl (v3)), (4, .inl (v4)), (6, .inl (v6)), (7, .inl (v7)), (8, .inl (v8)), (9, .inl (v9))]) (st2 := [.inr (.inr (some (0))), .inr (.inr (some (318))), .inr (.inr (some (316)))]) rfl ?_
      refine sd_b_gr (k := 5) sd_o_0 rfl rfl rfl ?_
      refine sd_b_gr (k := 0) sd_o_58 rfl rfl rfl ?_
      refine sd_b_go 1 (pc2 := 135) (lv2 := [(0, .inr (.inr (some (0)))), (1, .inl (v1)), (2, .inl (v2)), (3, .inl (v3)), (4, .inl (v4)), (6, .inl (v6)), (7, .inl (v7)), (8, .inl (v8)), (9, .inl (v9))]) (st2 := [.inr (.inr (some (0))), .inr (.inr (some (59))), .inr (.inr (some (318))), .inr (.inr (some (316)))]) rfl ?_
      obtain ⟨r3, e3, h⟩ := sd_bnd h
      refine sd_b_call [.inr (.inr (some (0)))] [.inr (.inr (some (59))), .inr (.inr (some (318))), .inr (.inr (some (316)))] rfl rfl sd_i_X9_ruleInForce rfl rfl (Nat.le_of_ble_eq_true rfl) (sd_rc_v sd_o_0) (m_X9_ruleInForce (by omega) e3) ?_
      obtain ⟨r4, e4, h⟩ := sd_bnd h
      refine sd_b_call [.inr (.inr (some (316))), .inr (.inr (some (318))), .inr (.inr (some (59))), .inr (.inr (r3.1))] [] rfl rfl sd_i_X1_pass rfl rfl (Nat.le_of_ble_eq_true rfl) (sd_rc_v sd_o_316) (m_X1_pass (by omega) sd_o_318 (n_X9_ruleInForce e3) e4) ?_
      refine sd_b_go 3 (pc2 := 108) (lv2 := [(9, .inl (sd_w (v9 + 1))), (0, .inr (.inr (some (0)))), (1, .inl (v1)), (2, .inl (v2)), (3, .inl (v3)), (4, .inl (v4)), (6, .inl (v6)), (7, .inl (v7)), (8, .inl (v8))]) (st2 := []) rfl ?_
      refine sd_b_wk [(0, .inr (.inr (some (0)))), (1, .inl (v1)), (2, .inl (v2)), (3, .inl (v3)), (4, .inl (v4)), (6, .inl (v6)), (7, .inl (v7)), (8, .inl (v8)), (9, .inl (sd_w (v9 + 1)))] (List.forall_mem_cons.mpr ⟨rfl, (List.forall_mem_cons.mpr ⟨rfl, (List.forall_mem_cons.mpr ⟨rfl, (List.forall_mem_cons.mpr ⟨rfl, (List.forall_mem_cons.mpr ⟨rfl, (List.forall_mem_cons.mpr ⟨rfl, (List.forall_mem_cons.mpr ⟨rfl, (List.forall_mem_cons.mpr ⟨rfl, (List.forall_mem_cons.mpr ⟨rfl, (fun _ h0 => absurd h0 List.not_mem_nil)⟩)⟩)⟩)⟩)⟩)⟩)⟩)⟩)⟩) ?_
      exact ih v1 v2 v3 v4 v6 v7 v8 (sd_w (v9 + 1)) r4.2 _ h
def f_X9_seasons_172 (k85 : Int → Int → Int → Int → Int → Int → Int → sd_M → Option (Int × sd_M)) (k181 : Int → Int → sd_M → Option (Int × sd_M)) (v1 : Int) (v2 : Int) (v3 : Int) (v4 : Int) (v6 : Int) (v8 : Int) (s0 : Int) (s1 : Int) (M : sd_M) : Option (Int × sd_M) := k85 v1 v2 v3 v4 v6 (sd_w (s1 + s0)) (sd_w (v8 + 1)) M
set_option maxRecDepth 4000 in
theorem t_X9_seasons_172 {X : Nat → List sd_V → List sd_E → sd_A → Prop} {d : Nat} (hd : 7 ≤ d) (k85 : Int → Int → Int → Int → Int → Int → Int → sd_M → Option (Int × sd_M)) (k181 : Int → Int → sd_M → Option (Int × sd_M)) (hk85 : ∀ (v1 : Int) (v2 : Int) (v3 : Int) (v4 : Int) (v6 : Int) (v7 : Int) (v8 : Int) (M : sd_M) (Rr : Int × sd_M), k85 v1 v2 v3 v4 v6 v7 v8 M = some Rr → sd_B X d sd_q_X9_seasons 85 [(0, .inr (.inr (some (0)))), (1, .inl (v1)), (2, .inl (v2)), (3, .inl (v3)), (4, .inl (v4)), (6, .inl (v6)), (7, .inl (v7)), (8, .inl (v8))] [] M (some (.inl Rr.1), sd_rp Rr.2, 0, 0)) (hk181 : ∀ (v6 : Int) (v7 : Int) (M : sd_M) (Rr : Int × sd_M), k181 v6 v7 M = some Rr → sd_B X d sd_q_X9_seasons 181 [(0, .inr (.inr (some (0)))), (6, .inl (v6)), (7, .inl (v7))] [] M (some (.inl Rr.1), sd_rp Rr.2, 0, 0)) (v1 : Int) (v2 : Int) (v3 : Int) (v4 : Int) (v6 : Int) (v8 : Int) (s0 : Int) (s1 : Int) (M : sd_M) (Rr : Int × sd_M) (h : f_X9_seasons_172 k85 k181 v1 v2 v3 v4 v6 v8 s0 s1 M = some Rr) : sd_B X d sd_q_X9_seasons 172 [(0, .inr (.inr (some (0)))), (1, .inl (v1)), (2, .inl (v2)), (3, .inl (v3)), (4, .inl (v4)), (6, .inl (v6)), (8, .inl (v8))] [.inl (s0), .inl (s1)] M (some (.inl Rr.1), sd_rp Rr.2, 0, 0) := by
  unfold f_X9_seasons_172 at h
  refine sd_b_go 4 (pc2 := 85) (lv2 := [(8, .inl (sd_w (v8 + 1))), (7, .inl (sd_w (s1 + s0))), (0, .inr (.inr (some (0)))), (1, .inl (v1)), (2, .inl (v2)), (3, .inl (v3)), (4, .inl (v4)), (6, .inl (v6))]) (st2 := []) rfl ?_
  refine sd_b_wk [(0, .inr (.inr (some (0)))), (1, .inl (v1)), (2, .inl (v2)), (3, .inl (v3)), (4, .inl (v4)), (6, .inl (v6)), (7, .inl (sd_w (s1 + s0))), (8, .inl (sd_w (v8 + 1)))] (List.forall_mem_cons.mpr ⟨rfl, (List.forall_mem_cons.mpr ⟨rfl, (List.forall_mem_cons.mpr ⟨rfl, (List.forall_mem_cons.mpr ⟨rfl, (List.forall_mem_cons.mpr ⟨rfl, (List.forall_mem_cons.mpr ⟨rfl, (List.forall_mem_cons.mpr ⟨rfl, (List.forall_mem_cons.mpr ⟨rfl, (fun _ h0 => absurd h0 List.not_mem_nil)⟩)⟩)⟩)⟩)⟩)⟩)⟩)⟩) ?_
  exact hk85 v1 v2 v3 v4 v6 (sd_w (s1 + s0)) (sd_w (v8 + 1)) M _ h
def f_X9_seasons_148 (k85 : Int → Int → Int → Int → Int → Int → Int → sd_M → Option (Int × sd_M)) (k181 : Int → Int → sd_M → Option (Int × sd_M)) (v1 : Int) (v2 : Int) (v3 : Int) (v4 : Int) (v6 : Int) (v7 : Int) (v8 : Int) (M : sd_M) : Option (Int × sd_M) := if v4 = 0 then ((f_X0_lacking 318 M).bind fun r2 => f_X9_seasons_172 k85 k181 v1 v2 v3 v4 v6 v8 r2.1 v7 r2.2) else (f_X9_seasons_172 k85 k181 v1 v2 v3 v4 v6 v8 (M 318 3) v7 M)
set_option maxRecDepth 4000 in
theorem t_X9_seasons_148 {X : Nat → List sd_V → List sd_E → sd_A → Prop} {d : Nat} (hd : 7 ≤ d) (k85 : Int → Int → Int → Int → Int → Int → Int → sd_M → Option (Int × sd_M)) (k181 : Int → Int → sd_M → Option (Int × sd_M)) (hk85 : ∀ (v1 : Int) (v2 : Int) (v3 : Int) (v4 : Int) (v6 : Int) (v7 : Int) (v8 : Int) (M : sd_M) (Rr : Int × sd_M), k85 v1 v2 v3 v4 v6 v7 v8 M = some Rr → sd_B X d sd_q_X9_seasons 85 [(0, .inr (.inr (some (0)))), (1, .inl (v1)), (2, .inl (v2)), (3, .inl (v3)), (4, .inl (v4)), (6, .inl (v6)), (7, .inl (v7)), (8, .inl (v8))] [] M (some (.inl Rr.1), sd_rp Rr.2, 0, 0)) (hk181 : ∀ (v6 : Int) (v7 : Int) (M : sd_M) (Rr : Int × sd_M), k181 v6 v7 M = some Rr → sd_B X d sd_q_X9_seasons 181 [(0, .inr (.inr (some (0)))), (6, .inl (v6)), (7, .inl (v7))] [] M (some (.inl Rr.1), sd_rp Rr.2, 0, 0)) (v1 : Int) (v2 : Int) (v3 : Int) (v4 : Int) (v6 : Int) (v7 : Int) (v8 : Int) (M : sd_M) (Rr : Int × sd_M) (h : f_X9_seasons_148 k85 k181 v1 v2 v3 v4 v6 v7 v8 M = some Rr) : sd_B X d sd_q_X9_seasons 148 [(0, .inr (.inr (some (0)))), (1, .inl (v1)), (2, .inl (v2)), (3, .inl (v3)), (4, .inl (v4)), (6, .inl (v6)), (7, .inl (v7)), (8, .inl (v8))] [] M (some (.inl Rr.1), sd_rp Rr.2, 0, 0) := by
  unfold f_X9_seasons_148 at h
  refine sd_b_go 2 (pc2 := 152) (lv2 := [(0, .inr (.inr (some (0)))), (1, .inl (v1)), (2, .inl (v2)), (3, .inl (v3)), (4, .inl (v4)), (6, .inl (v6)), (7, .inl (v7)), (8, .inl (v8))]) (st2 := [.inl (v4), .inl (v7)]) rfl ?_
  by_cases c1 : v4 = 0
  · rw [if_pos c1] at h
    refine sd_b_zf (c := .ne) rfl (decide_eq_false (not_not_intro c1)) (by decide) ?_
    refine sd_b_go 1 (pc2 := 156) (lv2 := [(0, .inr (.inr (some (0)))), (1, .inl (v1)), (2, .inl (v2)), (3, .inl (v3)), (4, .inl (v4)), (6, .inl (v6)), (7, .inl (v7)), (8, .inl (v8))]) (st2 := [.inr (.inr (some (0))), .inl (v7)]) rfl ?_
    refine sd_b_gr (k := 12) sd_o_0 rfl rfl rfl ?_
    obtain ⟨r2, e2, h⟩ := sd_bnd h
    refine sd_b_call [.inr (.inr (some (318)))] [.inl (v7)] rfl rfl sd_i_X0_lacking rfl rfl (Nat.le_of_ble_eq_true rfl) (sd_rc_v sd_o_318) (m_X0_lacking (by omega) sd_o_318 e2) ?_
    refine sd_b_go 1 (pc2 := 172) (lv2 := [(0, .inr (.inr (some (0)))), (1, .inl (v1)), (2, .inl (v2)), (3, .inl (v3)), (4, .inl (v4)), (6, .inl (v6)), (7, .inl (v7)), (8, .inl (v8))]) (st2 := [.inl (r2.1), .inl (v7)]) rfl ?_
    refine sd_b_wk [(0, .inr (.inr (some (0)))), (1, .inl (v1)), (2, .inl (v2)), (3, .inl (v3)), (4, .inl (v4)), (6, .inl (v6)), (8, .inl (v8))] (List.forall_mem_cons.mpr ⟨rfl, (List.forall_mem_cons.mpr ⟨rfl, (List.forall_mem_cons.mpr ⟨rfl, (List.forall_mem_cons.mpr ⟨rfl, (List.forall_mem_cons.mpr ⟨rfl, (List.forall_mem_cons.mpr ⟨rfl, (List.forall_mem_cons.mpr ⟨rfl, (fun _ h0 => absurd h0 List.not_mem_nil)⟩)⟩)⟩)⟩)⟩)⟩)⟩) ?_
    exact t_X9_seasons_172 hd k85 k181 hk85 hk181 v1 v2 v3 v4 v6 v8 r2.1 v7 r2.2 _ h
  · rw [if_neg c1] at h
    refine sd_b_zt (c := .ne) (tgt := 165) rfl (decide_eq_true c1) (by decide) ?_
    refine sd_b_go 1 (pc2 := 166) (lv2 := [(0, .inr (.inr (some (0)))), (1, .inl (v1)), (2, .inl (v2)), (3, .inl (v3)), (4, .inl (v4)), (6, .inl (v6)), (7, .inl (v7)), (8, .inl (v8))]) (st2 := [.inr (.inr (some (0))), .inl (v7)]) rfl ?_
    refine sd_b_gr (k := 12) sd_o_0 rfl rfl rfl ?_
    refine sd_b_gi (k := 3) sd_o_318 rfl rfl rfl ?_
    refine sd_b_wk [(0, .inr (.inr (some (0)))), (1, .inl (v1)), (2, .inl (v2)), (3, .inl (v3)), (4, .inl (v4)), (6, .inl (v6)), (8, .inl (v8))] (List.forall_mem_cons.mpr ⟨rfl, (List.forall_mem_cons.mpr ⟨rfl, (List.forall_mem_cons.mpr ⟨rfl, (List.forall_mem_cons.mpr ⟨rfl, (List.forall_mem_cons.mpr ⟨rfl, (List.forall_mem_cons.mpr ⟨rfl, (List.forall_mem_cons.mpr ⟨rfl, (fun _ h0 => absurd h0 List.not_mem_nil)⟩)⟩)⟩)⟩)⟩)⟩)⟩) ?_
    exact t_X9_seasons_172 hd k85 k181 hk85 hk181 v1 v2 v3 v4 v6 v8 (M 318 3) v7 M _ h
def f_X9_seasons_85 (k181 : Int → Int → sd_M → Option (Int × sd_M)) : Nat → Int → Int → Int → Int → Int → Int → Int → sd_M → Option (Int × sd_M)
  | 0, _, _, _, _, _, _, _, _ => none
  | n + 1, v1, v2, v3, v4, v6, v7, v8, M => if v1 ≤ v8 then (k181 v6 v7 M) else ((f_X0_copyFrom 318 66 M).bind fun r2 => f_X9_seasons_108 (f_X9_seasons_148 (f_X9_seasons_85 k181 n) k181) 4000 v1 v2 v3 v4 v6 v7 v8 0 r2.2)
set_option maxRecDepth 4000 in
theorem t_X9_seasons_85 {X : Nat → List sd_V → List sd_E → sd_A → Prop} {d : Nat} (hd : 7 ≤ d) (k181 : Int → Int → sd_M → Option (Int × sd_M)) (hk181 : ∀ (v6 : Int) (v7 : Int) (M : sd_M) (Rr : Int × sd_M), k181 v6 v7 M = some Rr → sd_B X d sd_q_X9_seasons 181 [(0, .inr (.inr (some (0)))), (6, .inl (v6)), (7, .inl (v7))] [] M (some (.inl Rr.1), sd_rp Rr.2, 0, 0)) : ∀ (n : Nat) (v1 : Int) (v2 : Int) (v3 : Int) (v4 : Int) (v6 : Int) (v7 : Int) (v8 : Int) (M : sd_M) (Rr : Int × sd_M), f_X9_seasons_85 k181 n v1 v2 v3 v4 v6 v7 v8 M = some Rr → sd_B X d sd_q_X9_seasons 85 [(0, .inr (.inr (some (0)))), (1, .inl (v1)), (2, .inl (v2)), (3, .inl (v3)), (4, .inl (v4)), (6, .inl (v6)), (7, .inl (v7)), (8, .inl (v8))] [] M (some (.inl Rr.1), sd_rp Rr.2, 0, 0) := by
  intro n
  induction n with
  | zero => intro v1 v2 v3 v4 v6 v7 v8 M Rr h; cases h
  | succ n ih =>
    intro v1 v2 v3 v4 v6 v7 v8 M Rr h
    rw [f_X9_seasons_85] at h
    refine sd_b_go 2 (pc2 := 88) (lv2 := [(0, .inr (.inr (some (0)))), (1, .inl (v1)), (2, .inl (v2)), (3, .inl (v3)), (4, .inl (v4)), (6, .inl (v6)), (7, .inl (v7)), (8, .inl (v8))]) (st2 := [.inl (v1), .inl (v8)]) rfl ?_
    by_cases c1 : v1 ≤ v8
    · rw [if_pos c1] at h
      refine sd_b_ct (c := .ge) (tgt := 181) rfl (decide_eq_true c1) (by decide) ?_
      refine sd_b_wk [(0, .inr (.inr (some (0)))), (6, .inl (v6)), (7, .inl (v7))] (List.forall_mem_cons.mpr ⟨rfl, (List.forall_mem_cons.mpr ⟨rfl, (List.forall_mem_cons.mpr ⟨rfl, (fun _ h0 => absurd h0 List.not_mem_nil)⟩)⟩)⟩) ?_
      exact hk181 v6 v7 M _ h
    · rw [if_neg c1] at h
      refine sd_b_cf (c := .ge) rfl (decide_eq_false c1) (by decide) ?_
      refine sd_b_go 1 (pc2 := 92) (lv2 := [(0, .inr (.inr (some (0)))), (1, .inl (v1)), (2, .inl (v2)), (3, .inl (v3)), (4, .inl (v4)), (6, .inl (v6)), (7, .inl (v7)), (8, .inl (v8))]) (st2 := [.inr (.inr (some (0)))]) rfl ?_
      refine sd_b_gr (k := 12) sd_o_0 rfl rfl rfl ?_
      refine sd_b_go 1 (pc2 := 96) (lv2 := [(0, .inr (.inr (some (0)))), (1, .inl (v1)), (2, .inl (v2)), (3, .inl (v3)), (4, .inl (v4)), (6, .inl (v6)), (7, .inl (v7)), (8, .inl (v8))]) (st2 := [.inr (.inr (some (0))), .inr (.inr (some (318)))]) rfl ?_
      refine sd_b_gr (k := 5) sd_o_0 rfl rfl rfl ?_
      refine sd_b_gr (k := 1) sd_o_58 rfl rfl rfl ?_
      obtain ⟨r2, e2, h⟩ := sd_bnd h
      refine sd_b_call [.inr (.inr (some (318))), .inr (.inr (some (66)))] [] rfl rfl sd_i_X0_copyFrom rfl rfl (Nat.le_of_ble_eq_true rfl) (sd_rc_v sd_o_318) (m_X0_copyFrom (by omega) sd_o_318 sd_o_66 e2) ?_
      refine sd_b_go 2 (pc2 := 108) (lv2 := [(9, .inl (0)), (0, .inr (.inr (some (0)))), (1, .inl (v1)), (2, .inl (v2)), (3, .inl (v3)), (4, .inl (v4)), (6, .inl (v6)), (7, .inl (v7)), (8, .inl (v8))]) (st2 := []) rfl ?_
      refine sd_b_wk [(0, .inr (.inr (some (0)))), (1, .inl (v1)), (2, .inl (v2)), (3, .inl (v3)), (4, .inl (v4)), (6, .inl (v6)), (7, .inl (v7)), (8, .inl (v8)), (9, .inl (0))] (List.forall_mem_cons.mpr ⟨rfl, (List.forall_mem_cons.mpr ⟨rfl, (List.forall_mem_cons.mpr ⟨rfl, (List.forall_mem_cons.mpr ⟨rfl, (List.forall_mem_cons.mpr ⟨rfl, (List.forall_mem_cons.mpr ⟨rfl, (List.forall_mem_cons.mpr ⟨rfl, (List.forall_mem_cons.mpr ⟨rfl, (List.forall_mem_cons.mpr ⟨rfl, (fun _ h0 => absurd h0 List.not_mem_nil)⟩)⟩)⟩)⟩)⟩)⟩)⟩)⟩)⟩) ?_
      exact t_X9_seasons_108 hd (f_X9_seasons_148 (f_X9_seasons_85 k181 n) k181) (t_X9_seasons_148 hd (f_X9_seasons_85 k181 n) k181 ih hk181) 4000 v1 v2 v3 v4 v6 v7 v8 0 r2.2 _ h
def f_X9_seasons_181 (v6 : Int) (v7 : Int) (M : sd_M) : Option (Int × sd_M) := some (v7, sd_s M 58 4 v6)
set_option maxRecDepth 4000 in
theorem t_X9_seasons_181 {X : Nat → List sd_V → List sd_E → sd_A → Prop} {d : Nat} (hd : 7 ≤ d) (v6 : Int) (v7 : Int) (M : sd_M) (Rr : Int × sd_M) (h : f_X9_seasons_181 v6 v7 M = some Rr) : sd_B X d sd_q_X9_seasons 181 [(0, .inr (.inr (some (0)))), (6, .inl (v6)), (7, .inl (v7))] [] M (some (.inl Rr.1), sd_rp Rr.2, 0, 0) := by
  unfold f_X9_seasons_181 at h
  refine sd_b_go 1 (pc2 := 182) (lv2 := [(0, .inr (.inr (some (0)))), (6, .inl (v6)), (7, .inl (v7))]) (st2 := [.inr (.inr (some (0)))]) rfl ?_
  refine sd_b_gr (k := 5) sd_o_0 rfl rfl rfl ?_
  refine sd_b_go 1 (pc2 := 187) (lv2 := [(0, .inr (.inr (some (0)))), (6, .inl (v6)), (7, .inl (v7))]) (st2 := [.inl (v6), .inr (.inr (some (58)))]) rfl ?_
  refine sd_b_pi (k := 4) sd_o_58 rfl rfl rfl rfl rfl ?_
  refine sd_b_go 1 (pc2 := 192) (lv2 := [(0, .inr (.inr (some (0)))), (6, .inl (v6)), (7, .inl (v7))]) (st2 := [.inl (v7)]) rfl ?_
  cases h
  exact sd_b_rt rfl rfl rfl
def f_X9_seasons_48 (v1 : Int) (v2 : Int) (v3 : Int) (v4 : Int) (s0 : Int) (M : sd_M) : Option (Int × sd_M) := if (M 59 0) = 0 then (some ((-1), M)) else (if s0 = 0 then (some ((-1), M)) else (f_X9_seasons_85 (f_X9_seasons_181) 4000 v1 v2 v3 v4 (M 58 4) 0 0 M))
set_option maxRecDepth 4000 in
theorem t_X9_seasons_48 {X : Nat → List sd_V → List sd_E → sd_A → Prop} {d : Nat} (hd : 7 ≤ d) (v1 : Int) (v2 : Int) (v3 : Int) (v4 : Int) (s0 : Int) (M : sd_M) (Rr : Int × sd_M) (h : f_X9_seasons_48 v1 v2 v3 v4 s0 M = some Rr) : sd_B X d sd_q_X9_seasons 48 [(0, .inr (.inr (some (0)))), (1, .inl (v1)), (2, .inl (v2)), (3, .inl (v3)), (4, .inl (v4))] [.inl (s0)] M (some (.inl Rr.1), sd_rp Rr.2, 0, 0) := by
  unfold f_X9_seasons_48 at h
  refine sd_b_go 2 (pc2 := 51) (lv2 := [(5, .inl (s0)), (0, .inr (.inr (some (0)))), (1, .inl (v1)), (2, .inl (v2)), (3, .inl (v3)), (4, .inl (v4))]) (st2 := [.inr (.inr (some (0)))]) rfl ?_
  refine sd_b_gr (k := 5) sd_o_0 rfl rfl rfl ?_
  refine sd_b_gr (k := 0) sd_o_58 rfl rfl rfl ?_
  refine sd_b_gi (k := 0) sd_o_59 rfl rfl rfl ?_
  by_cases c1 : (M 59 0) = 0
  · rw [if_pos c1] at h
    refine sd_b_zt (c := .eq) (tgt := 68) rfl (decide_eq_true c1) (by decide) ?_
    refine sd_b_go 1 (pc2 := 69) (lv2 := [(5, .inl (s0)), (0, .inr (.inr (some (0)))), (1, .inl (v1)), (2, .inl (v2)), (3, .inl (v3)), (4, .inl (v4))]) (st2 := [.inl ((-1))]) rfl ?_
    cases h
    exact sd_b_rt rfl rfl rfl
  · rw [if_neg c1] at h
    refine sd_b_zf (c := .eq) rfl (decide_eq_false c1) (by decide) ?_
    refine sd_b_go 1 (pc2 := 65) (lv2 := [(5, .inl (s0)), (0, .inr (.inr (some (0)))), (1, .inl (v1)), (2, .inl (v2)), (3, .inl (v3)), (4, .inl (v4))]) (st2 := [.inl (s0)]) rfl ?_
    by_cases c2 : s0 = 0
    · rw [if_pos c2] at h
      refine sd_b_zf (c := .ne) rfl (decide_eq_false (not_not_intro c2)) (by decide) ?_
      refine sd_b_go 1 (pc2 := 69) (lv2 := [(5, .inl (s0)), (0, .inr (.inr (some (0)))), (1, .inl (v1)), (2, .inl (v2)), (3, .inl (v3)), (4, .inl (v4))]) (st2 := [.inl ((-1))]) rfl ?_
      cases h
      exact sd_b_rt rfl rfl rfl
    · rw [if_neg c2] at h
      refine sd_b_zt (c := .ne) (tgt := 70) rfl (decide_eq_true c2) (by decide) ?_
      refine sd_b_go 1 (pc2 := 71) (lv2 := [(5, .inl (s0)), (0, .inr (.inr (some (0)))), (1, .inl (v1)), (2, .inl (v2)), (3, .inl (v3)), (4, .inl (v4))]) (st2 := [.inr (.inr (some (0)))]) rfl ?_
      refine sd_b_gr (k := 5) sd_o_0 rfl rfl rfl ?_
      refine sd_b_gi (k := 4) sd_o_58 rfl rfl rfl ?_
      refine sd_b_go 5 (pc2 := 85) (lv2 := [(8, .inl (0)), (7, .inl (0)), (6, .inl (M 58 4)), (5, .inl (s0)), (0, .inr (.inr (some (0)))), (1, .inl (v1)), (2, .inl (v2)), (3, .inl (v3)), (4, .inl (v4))]) (st2 := []) rfl ?_
      refine sd_b_wk [(0, .inr (.inr (some (0)))), (1, .inl (v1)), (2, .inl (v2)), (3, .inl (v3)), (4, .inl (v4)), (6, .inl (M 58 4)), (7, .inl (0)), (8, .inl (0))] (List.forall_mem_cons.mpr ⟨rfl, (List.forall_mem_cons.mpr ⟨rfl, (List.forall_mem_cons.mpr ⟨rfl, (List.forall_mem_cons.mpr ⟨rfl, (List.forall_mem_cons.mpr ⟨rfl, (List.forall_mem_cons.mpr ⟨rfl, (List.forall_mem_cons.mpr ⟨rfl, (List.forall_mem_cons.mpr ⟨rfl, (fun _ h0 => absurd h0 List.not_mem_nil)⟩)⟩)⟩)⟩)⟩)⟩)⟩)⟩) ?_
      exact t_X9_seasons_85 hd (f_X9_seasons_181) (t_X9_seasons_181 hd) 4000 v1 v2 v3 v4 (M 58 4) 0 0 M _ h
def f_X9_seasons_47 (v1 : Int) (v2 : Int) (v3 : Int) (v4 : Int) (M : sd_M) : Option (Int × sd_M) := f_X9_seasons_48 v1 v2 v3 v4 0 M
set_option maxRecDepth 4000 in
theorem t_X9_seasons_47 {X : Nat → List sd_V → List sd_E → sd_A → Prop} {d : Nat} (hd : 7 ≤ d) (v1 : Int) (v2 : Int) (v3 : Int) (v4 : Int) (M : sd_M) (Rr : Int × sd_M) (h : f_X9_seasons_47 v1 v2 v3 v4 M = some Rr) : sd_B X d sd_q_X9_seasons 47 [(0, .inr (.inr (some (0)))), (1, .inl (v1)), (2, .inl (v2)), (3, .inl (v3)), (4, .inl (v4))] [] M (some (.inl Rr.1), sd_rp Rr.2, 0, 0) := by
  unfold f_X9_seasons_47 at h
  refine sd_b_go 1 (pc2 := 48) (lv2 := [(0, .inr (.inr (some (0)))), (1, .inl (v1)), (2, .inl (v2)), (3, .inl (v3)), (4, .inl (v4))]) (st2 := [.inl (0)]) rfl ?_
  refine sd_b_wk [(0, .inr (.inr (some (0)))), (1, .inl (v1)), (2, .inl (v2)), (3, .inl (v3)), (4, .inl (v4))] (List.forall_mem_cons.mpr ⟨rfl, (List.forall_mem_cons.mpr ⟨rfl, (List.forall_mem_cons.mpr ⟨rfl, (List.forall_mem_cons.mpr ⟨rfl, (List.forall_mem_cons.mpr ⟨rfl, (fun _ h0 => absurd h0 List.not_mem_nil)⟩)⟩)⟩)⟩)⟩) ?_
  exact t_X9_seasons_48 hd v1 v2 v3 v4 0 M _ h
def f_X9_seasons (p1 : Int) (p2 : Int) (p3 : Int) (p4 : Int) (M : sd_M) : Option (Int × sd_M) := if p1 < 1 then (f_X9_seasons_47 p1 p2 p3 p4 M) else (if 10 < p1 then (f_X9_seasons_47 p1 p2 p3 p4 M) else (if p2 < 1 then (f_X9_seasons_47 p1 p2 p3 p4 M) else (if 30 < p2 then (f_X9_seasons_47 p1 p2 p3 p4 M) else (if p3 < 0 then (f_X9_seasons_47 p1 p2 p3 p4 M) else (if 100 < p3 then (f_X9_seasons_47 p1 p2 p3 p4 M) else (if p4 < 0 then (f_X9_seasons_47 p1 p2 p3 p4 M) else (if 1 < p4 then (f_X9_seasons_47 p1 p2 p3 p4 M) else (f_X9_seasons_48 p1 p2 p3 p4 1 M))))))))
set_option maxRecDepth 4000 in
theorem t_X9_seasons {X : Nat → List sd_V → List sd_E → sd_A → Prop} {d : Nat} (hd : 7 ≤ d) (p1 : Int) (p2 : Int) (p3 : Int) (p4 : Int) (M : sd_M) (Rr : Int × sd_M) (h : f_X9_seasons p1 p2 p3 p4 M = some Rr) : sd_B X d sd_q_X9_seasons 0 [(0, .inr (.inr (some (0)))), (1, .inl (p1)), (2, .inl (p2)), (3, .inl (p3)), (4, .inl (p4))] [] M (some (.inl Rr.1), sd_rp Rr.2, 0, 0) := by
  unfold f_X9_seasons at h
  refine sd_b_go 2 (pc2 := 2) (lv2 := [(0, .inr (.inr (some (0)))), (1, .inl (p1)), (2, .inl (p2)), (3, .inl (p3)), (4, .inl (p4))]) (st2 := [.inl (1), .inl (p1)]) rfl ?_
  by_cases c1 : p1 < 1
  · rw [if_pos c1] at h
    refine sd_b_ct (c := .lt) (tgt := 47) rfl (decide_eq_true c1) (by decide) ?_
    refine sd_b_wk [(0, .inr (.inr (some (0)))), (1, .inl (p1)), (2, .inl (p2)), (3, .inl (p3)), (4, .inl (p4))] (List.forall_mem_cons.mpr ⟨rfl, (List.forall_mem_cons.mpr ⟨rfl, (List.forall_mem_cons.mpr ⟨rfl, (List.forall_mem_cons.mpr ⟨rfl, (List.forall_mem_cons.mpr ⟨rfl, (fun _ h0 => absurd h0 List.not_mem_nil)⟩)⟩)⟩)⟩)⟩) ?_
    exact t_X9_seasons_47 hd p1 p2 p3 p4 M _ h
  · rw [if_neg c1] at h
    refine sd_b_cf (c := .lt) rfl (decide_eq_false c1) (by decide) ?_
    refine sd_b_go 2 (pc2 := 8) (lv2 := [(0, .inr (.inr (some (0)))), (1, .inl (p1)), (2, .inl (p2)), (3, .inl (p3)), (4, .inl (p4))]) (st2 := [.inl (10), .inl (p1)]) rfl ?_
    by_cases c2 : 10 < p1
    · rw [if_pos c2] at h
      refine sd_b_ct (c := .gt) (tgt := 47) rfl (decide_eq_true c2) (by decide) ?_
      refine sd_b_wk [(0, .inr (.inr (some (0)))), (1, .inl (p1)), (2, .inl (p2)), (3, .inl (p3)), (4, .inl (p4))] (List.forall_mem_cons.mpr ⟨rfl, (List.forall_mem_cons.mpr ⟨rfl, (List.forall_mem_cons.mpr ⟨rfl, (List.forall_mem_cons.mpr ⟨rfl, (List.forall_mem_cons.mpr ⟨rfl, (fun _ h0 => absurd h0 List.not_mem_nil)⟩)⟩)⟩)⟩)⟩) ?_
      exact t_X9_seasons_47 hd p1 p2 p3 p4 M _ h
    · rw [if_neg c2] at h
      refine sd_b_cf (c := .gt) rfl (decide_eq_false c2) (by decide) ?_
      refine sd_b_go 2 (pc2 := 13) (lv2 := [(0, .inr (.inr (some (0)))), (1, .inl (p1)), (2, .inl (p2)), (3, .inl (p3)), (4, .inl (p4))]) (st2 := [.inl (1), .inl (p2)]) rfl ?_
      by_cases c3 : p2 < 1
      · rw [if_pos c3] at h
        refine sd_b_ct (c := .lt) (tgt := 47) rfl (decide_eq_true c3) (by decide) ?_
        refine sd_b_wk [(0, .inr (.inr (some (0)))), (1, .inl (p1)), (2, .inl (p2)), (3, .inl (p3)), (4, .inl (p4))] (List.forall_mem_cons.mpr ⟨rfl, (List.forall_mem_cons.mpr ⟨rfl, (List.forall_mem_cons.mpr ⟨rfl, (List.forall_mem_cons.mpr ⟨rfl, (List.forall_mem_cons.mpr ⟨rfl, (fun _ h0 => absurd h0 List.not_mem_nil)⟩)⟩)⟩)⟩)⟩) ?_
        exact t_X9_seasons_47 hd p1 p2 p3 p4 M _ h
      · rw [if_neg c3] at h
        refine sd_b_cf (c := .lt) rfl (decide_eq_false c3) (by decide) ?_
        refine sd_b_go 2 (pc2 := 19) (lv2 := [(0, .inr (.inr (some (0)))), (1, .inl (p1)), (2, .inl (p2)), (3, .inl (p3)), (4, .inl (p4))]) (st2 := [.inl (30), .inl (p2)]) rfl ?_
        by_cases c4 : 30 < p2
        · rw [if_pos c4] at h
          refine sd_b_ct (c := .gt) (tgt := 47) rfl (decide_eq_true c4) (by decide) ?_
          refine sd_b_wk [(0, .inr (.inr (some (0)))), (1, .inl (p1)), (2, .inl (p2)), (3, .inl (p3)), (4, .inl (p4))] (List.forall_mem_cons.mpr ⟨rfl, (List.forall_mem_cons.mpr ⟨rfl, (List.forall_mem_cons.mpr ⟨rfl, (List.forall_mem_cons.mpr ⟨rfl, (List.forall_mem_cons.mpr ⟨rfl, (fun _ h0 => absurd h0 List.not_mem_nil)⟩)⟩)⟩)⟩)⟩) ?_
          exact t_X9_seasons_47 hd p1 p2 p3 p4 M _ h
        · rw [if_neg c4] at h
          refine sd_b_cf (c := .gt) rfl (decide_eq_false c4) (by decide) ?_
          refine sd_b_go 1 (pc2 := 23) (lv2 := [(0, .inr (.inr (some (0)))), (1, .inl (p1)), (2, .inl (p2)), (3, .inl (p3)), (4, .inl (p4))]) (st2 := [.inl (p3)]) rfl ?_
          by_cases c5 : p3 < 0
          · rw [if_pos c5] at h
            refine sd_b_zt (c := .lt) (tgt := 47) rfl (decide_eq_true c5) (by decide) ?_
            refine sd_b_wk [(0, .inr (.inr (some (0)))), (1, .inl (p1)), (2, .inl (p2)), (3, .inl (p3)), (4, .inl (p4))] (List.forall_mem_cons.mpr ⟨rfl, (List.forall_mem_cons.mpr ⟨rfl, (List.forall_mem_cons.mpr ⟨rfl, (List.forall_mem_cons.mpr ⟨rfl, (List.forall_mem_cons.mpr ⟨rfl, (fun _ h0 => absurd h0 List.not_mem_nil)⟩)⟩)⟩)⟩)⟩) ?_
            exact t_X9_seasons_47 hd p1 p2 p3 p4 M _ h
          · rw [if_neg c5] at h
            refine sd_b_zf (c := .lt) rfl (decide_eq_false c5) (by decide) ?_
            refine sd_b_go 2 (pc2 := 29) (lv2 := [(0, .inr (.inr (some (0)))), (1, .inl (p1)), (2, .inl (p2)), (3, .inl (p3)), (4, .inl (p4))]) (st2 := [.inl (100), .inl (p3)]) rfl ?_
            by_cases c6 : 100 < p3
            · rw [if_pos c6] at h
              refine sd_b_ct (c := .gt) (tgt := 47) rfl (decide_eq_true c6) (by decide) ?_
              refine sd_b_wk [(0, .inr (.inr (some (0)))), (1, .inl (p1)), (2, .inl (p2)), (3, .inl (p3)), (4, .inl (p4))] (List.forall_mem_cons.mpr ⟨rfl, (List.forall_mem_cons.mpr ⟨rfl, (List.forall_mem_cons.mpr ⟨rfl, (List.forall_mem_cons.mpr ⟨rfl, (List.forall_mem_cons.mpr ⟨rfl, (fun _ h0 => absurd h0 List.not_mem_nil)⟩)⟩)⟩)⟩)⟩) ?_
              exact t_X9_seasons_47 hd p1 p2 p3 p4 M _ h
            · rw [if_neg c6] at h
              refine sd_b_cf (c := .gt) rfl (decide_eq_false c6) (by decide) ?_
              refine sd_b_go 1 (pc2 := 34) (lv2 := [(0, .inr (.inr (some (0)))), (1, .inl (p1)), (2, .inl (p2)), (3, .inl (p3)), (4, .inl (p4))]) (st2 := [.inl (p4)]) rfl ?_
              by_cases c7 : p4 < 0
              · rw [if_pos c7] at h
                refine sd_b_zt (c := .lt) (tgt := 47) rfl (decide_eq_true c7) (by decide) ?_
                refine sd_b_wk [(0, .inr (.inr (some (0)))), (1, .inl (p1)), (2, .inl (p2)), (3, .inl (p3)), (4, .inl (p4))] (List.forall_mem_cons.mpr ⟨rfl, (List.forall_mem_cons.mpr ⟨rfl, (List.forall_mem_cons.mpr ⟨rfl, (List.forall_mem_cons.mpr ⟨rfl, (List.forall_mem_cons.mpr ⟨rfl, (fun _ h0 => absurd h0 List.not_mem_nil)⟩)⟩)⟩)⟩)⟩) ?_
                exact t_X9_seasons_47 hd p1 p2 p3 p4 M _ h
              · rw [if_neg c7] at h
                refine sd_b_zf (c := .lt) rfl (decide_eq_false c7) (by decide) ?_
                refine sd_b_go 2 (pc2 := 40) (lv2 := [(0, .inr (.inr (some (0)))), (1, .inl (p1)), (2, .inl (p2)), (3, .inl (p3)), (4, .inl (p4))]) (st2 := [.inl (1), .inl (p4)]) rfl ?_
                by_cases c8 : 1 < p4
                · rw [if_pos c8] at h
                  refine sd_b_ct (c := .gt) (tgt := 47) rfl (decide_eq_true c8) (by decide) ?_
                  refine sd_b_wk [(0, .inr (.inr (some (0)))), (1, .inl (p1)), (2, .inl (p2)), (3, .inl (p3)), (4, .inl (p4))] (List.forall_mem_cons.mpr ⟨rfl, (List.forall_mem_cons.mpr ⟨rfl, (List.forall_mem_cons.mpr ⟨rfl, (List.forall_mem_cons.mpr ⟨rfl, (List.forall_mem_cons.mpr ⟨rfl, (fun _ h0 => absurd h0 List.not_mem_nil)⟩)⟩)⟩)⟩)⟩) ?_
                  exact t_X9_seasons_47 hd p1 p2 p3 p4 M _ h
                · rw [if_neg c8] at h
                  refine sd_b_cf (c := .gt) rfl (decide_eq_false c8) (by decide) ?_
                  refine sd_b_go 2 (pc2 := 48) (lv2 := [(0, .inr (.inr (some (0)))), (1, .inl (p1)), (2, .inl (p2)), (3, .inl (p3)), (4, .inl (p4))]) (st2 := [.inl (1)]) rfl ?_
                  refine sd_b_wk [(0, .inr (.inr (some (0)))), (1, .inl (p1)), (2, .inl (p2)), (3, .inl (p3)), (4, .inl (p4))] (List.forall_mem_cons.mpr ⟨rfl, (List.forall_mem_cons.mpr ⟨rfl, (List.forall_mem_cons.mpr ⟨rfl, (List.forall_mem_cons.mpr ⟨rfl, (List.forall_mem_cons.mpr ⟨rfl, (fun _ h0 => absurd h0 List.not_mem_nil)⟩)⟩)⟩)⟩)⟩) ?_
                  exact t_X9_seasons_48 hd p1 p2 p3 p4 1 M _ h
theorem m_X9_seasons {X : Nat → List sd_V → List sd_E → sd_A → Prop} {d : Nat} (hd : 8 ≤ d) {p1 : Int} {p2 : Int} {p3 : Int} {p4 : Int} {M : sd_M} {Rr : Int × sd_M} (h : f_X9_seasons p1 p2 p3 p4 M = some Rr) : sd_Cal X d 106 [.inr (.inr (some (0))), .inl (p1), .inl (p2), .inl (p3), .inl (p4)] (sd_rp M) (some (.inl Rr.1), sd_rp Rr.2, 0, 0) := by
  obtain ⟨d, rfl⟩ : ∃ d2, d = d2 + 1 := ⟨d - 1, by omega⟩
  exact sd_cal_of sd_i_X9_seasons (Nat.le_of_ble_eq_true rfl) (t_X9_seasons (by omega) p1 p2 p3 p4 M Rr h)
-- X9_sizes
def sd_q_X9_sizes : sd_MI := (yX9_sizes, cX9_sizes, 6, (some .int), 9, 2, sd_t_X9_sizes)
set_option maxRecDepth 4000 in
theorem sd_i_X9_sizes : sd_mL[110]? = some sd_q_X9_sizes := rfl
def f_X9_sizes_90 (k29 : Int → Int → Int → Int → Int → sd_M → Option (Int × sd_M)) (k96 : Int → Int → Int → sd_M → Option (Int × sd_M)) (v1 : Int) (v2 : Int) (v3 : Int) (v4 : Int) (v5 : Int) (M : sd_M) : Option (Int × sd_M) := k29 v1 v2 v3 v4 (sd_w (v5 + 10)) M
set_option maxRecDepth 4000 in
theorem t_X9_sizes_90 {X : Nat → List sd_V → List sd_E → sd_A → Prop} {d : Nat} (hd : 7 ≤ d) (k29 : Int → Int → Int → Int → Int → sd_M → Option (Int × sd_M)) (k96 : Int → Int → Int → sd_M → Option (Int × sd_M)) (hk29 : ∀ (v1 : Int) (v2 : Int) (v3 : Int) (v4 : Int) (v5 : Int) (M : sd_M) (Rr : Int × sd_M), k29 v1 v2 v3 v4 v5 M = some Rr → sd_B X d sd_q_X9_sizes 29 [(0, .inr (.inr (some (0)))), (1, .inl (v1)), (2, .inl (v2)), (3, .inl (v3)), (4, .inl (v4)), (5, .inl (v5))] [] M (some (.inl Rr.1), sd_rp Rr.2, 0, 0)) (hk96 : ∀ (v2 : Int) (v3 : Int) (v4 : Int) (M : sd_M) (Rr : Int × sd_M), k96 v2 v3 v4 M = some Rr → sd_B X d sd_q_X9_sizes 96 [(2, .inl (v2)), (3, .inl (v3)), (4, .inl (v4))] [] M (some (.inl Rr.1), sd_rp Rr.2, 0, 0)) (v1 : Int) (v2 : Int) (v3 : Int) (v4 : Int) (v5 : Int) (M : sd_M) (Rr : Int × sd_M) (h : f_X9_sizes_90 k29 k96 v1 v2 v3 v4 v5 M = some Rr) : sd_B X d sd_q_X9_sizes 90 [(0, .inr (.inr (some (0)))), (1, .inl (v1)), (2, .inl (v2)), (3, .inl (v3)), (4, .inl (v4)), (5, .inl (v5))] [] M (some (.inl Rr.1), sd_rp Rr.2, 0, 0) := by
  unfold f_X9_sizes_90 at h
  refine sd_b_go 2 (pc2 := 29) (lv2 := [(5, .inl (sd_w (v5 + 10))), (0, .inr (.inr (some (0)))), (1, .inl (v1)), (2, .inl (v2)), (3, .inl (v3)), (4, .inl (v4))]) (st2 := []) rfl ?_
  refine sd_b_wk [(0, .inr (.inr (some (0)))), (1, .inl (v1)), (2, .inl (v2)), (3, .inl (v3)), (4, .inl (v4)), (5, .inl (sd_w (v5 + 10)))] (List.forall_mem_cons.mpr ⟨rfl, (List.forall_mem_cons.mpr ⟨rfl, (List.forall_mem_cons.mpr ⟨rfl, (List.forall_mem_cons.mpr ⟨rfl, (List.forall_mem_cons.mpr ⟨rfl, (List.forall_mem_cons.mpr ⟨rfl, (fun _ h0 => absurd h0 List.not_mem_nil)⟩)⟩)⟩)⟩)⟩)⟩) ?_
  exact hk29 v1 v2 v3 v4 (sd_w (v5 + 10)) M _ h
def f_X9_sizes_88 (k29 : Int → Int → Int → Int → Int → sd_M → Option (Int × sd_M)) (k96 : Int → Int → Int → sd_M → Option (Int × sd_M)) (v1 : Int) (v2 : Int) (v3 : Int) (v5 : Int) (s0 : Int) (M : sd_M) : Option (Int × sd_M) := f_X9_sizes_90 k29 k96 v1 v2 v3 s0 v5 M
set_option maxRecDepth 4000 in
theorem t_X9_sizes_88 {X : Nat → List sd_V → List sd_E → sd_A → Prop} {d : Nat} (hd : 7 ≤ d) (k29 : Int → Int → Int → Int → Int → sd_M → Option (Int × sd_M)) (k96 : Int → Int → Int → sd_M → Option (Int × sd_M)) (hk29 : ∀ (v1 : Int) (v2 : Int) (v3 : Int) (v4 : Int) (v5 : Int) (M : sd_M) (Rr : Int × sd_M), k29 v1 v2 v3 v4 v5 M = some Rr → sd_B X d sd_q_X9_sizes 29 [(0, .inr (.inr (some (0)))), (1, .inl (v1)), (2, .inl (v2)), (3, .inl (v3)), (4, .inl (v4)), (5, .inl (v5))] [] M (some (.inl Rr.1), sd_rp Rr.2, 0, 0)) (hk96 : ∀ (v2 : Int) (v3 : Int) (v4 : Int) (M : sd_M) (Rr : Int × sd_M), k96 v2 v3 v4 M = some Rr → sd_B X d sd_q_X9_sizes 96 [(2, .inl (v2)), (3, .inl (v3)), (4, .inl (v4))] [] M (some (.inl Rr.1), sd_rp Rr.2, 0, 0)) (v1 : Int) (v2 : Int) (v3 : Int) (v5 : Int) (s0 : Int) (M : sd_M) (Rr : Int × sd_M) (h : f_X9_sizes_88 k29 k96 v1 v2 v3 v5 s0 M = some Rr) : sd_B X d sd_q_X9_sizes 88 [(0, .inr (.inr (some (0)))), (1, .inl (v1)), (2, .inl (v2)), (3, .inl (v3)), (5, .inl (v5))] [.inl (s0)] M (some (.inl Rr.1), sd_rp Rr.2, 0, 0) := by
  unfold f_X9_sizes_88 at h
  refine sd_b_go 1 (pc2 := 90) (lv2 := [(4, .inl (s0)), (0, .inr (.inr (some (0)))), (1, .inl (v1)), (2, .inl (v2)), (3, .inl (v3)), (5, .inl (v5))]) (st2 := []) rfl ?_
  refine sd_b_wk [(0, .inr (.inr (some (0)))), (1, .inl (v1)), (2, .inl (v2)), (3, .inl (v3)), (4, .inl (s0)), (5, .inl (v5))] (List.forall_mem_cons.mpr ⟨rfl, (List.forall_mem_cons.mpr ⟨rfl, (List.forall_mem_cons.mpr ⟨rfl, (List.forall_mem_cons.mpr ⟨rfl, (List.forall_mem_cons.mpr ⟨rfl, (List.forall_mem_cons.mpr ⟨rfl, (fun _ h0 => absurd h0 List.not_mem_nil)⟩)⟩)⟩)⟩)⟩)⟩) ?_
  exact t_X9_sizes_90 hd k29 k96 hk29 hk96 v1 v2 v3 s0 v5 M _ h
def f_X9_sizes_29 (k96 : Int → Int → Int → sd_M → Option (Int × sd_M)) : Nat → Int → Int → Int → Int → Int → sd_M → Option (Int × sd_M)
  | 0, _, _, _, _, _, _ => none
  | n + 1, v1, v2, v3, v4, v5, M => if 990 < v5 then (k96 v2 v3 v4 M) else ((f_X0_begin 318 M).bind fun r2 => if 0 ≤ v1 ∧ v1 < 9 then ((f_X9_ruleInForce (sd_s r2.2 319 v1.toNat v5)).bind fun r4 => (f_X9_goesAsNoted r4.1 r4.2).bind fun r5 => if r5.1 = 0 then (f_X9_sizes_90 (f_X9_sizes_29 k96 n) k96 v1 v2 v3 v4 v5 r5.2) else (if (sd_w (v3 + 1)) = 1 then (f_X9_sizes_88 (f_X9_sizes_29 k96 n) k96 v1 v2 (sd_w (v3 + 1)) v5 v5 r5.2) else (f_X9_sizes_88 (f_X9_sizes_29 k96 n) k96 v1 v2 (sd_w (v3 + 1)) v5 v4 r5.2))) else none)
set_option maxRecDepth 4000 in
theorem t_X9_sizes_29 {X : Nat → List sd_V → List sd_E → sd_A → Prop} {d : Nat} (hd : 7 ≤ d) (k96 : Int → Int → Int → sd_M → Option (Int × sd_M)) (hk96 : ∀ (v2 : Int) (v3 : Int) (v4 : Int) (M : sd_M) (Rr : Int × sd_M), k96 v2 v3 v4 M = some Rr → sd_B X d sd_q_X9_sizes 96 [(2, .inl (v2)), (3, .inl (v3)), (4, .inl (v4))] [] M (some (.inl Rr.1), sd_rp Rr.2, 0, 0)) : ∀ (n : Nat) (v1 : Int) (v2 : Int) (v3 : Int) (v4 : Int) (v5 : Int) (M : sd_M) (Rr : Int × sd_M), f_X9_sizes_29 k96 n v1 v2 v3 v4 v5 M = some Rr → sd_B X d sd_q_X9_sizes 29 [(0, .inr (.inr (some (0)))), (1, .inl (v1)), (2, .inl (v2)), (3, .inl (v3)), (4, .inl (v4)), (5, .inl (v5))] [] M (some (.inl Rr.1), sd_rp Rr.2, 0, 0) := by
  intro n
  induction n with
  | zero => intro v1 v2 v3 v4 v5 M Rr h; cases h
  | succ n ih =>
    intro v1 v2 v3 v4 v5 M Rr h
    rw [f_X9_sizes_29] at h
    refine sd_b_go 2 (pc2 := 34) (lv2 := [(0, .inr (.inr (some (0)))), (1, .inl (v1)), (2, .inl (v2)), (3, .inl (v3)), (4, .inl (v4)), (5, .inl (v5))]) (st2 := [.inl (990), .inl (v5)]) rfl ?_
    by_cases c1 : 990 < v5
    · rw [if_pos c1] at h
      refine sd_b_ct (c := .gt) (tgt := 96) rfl (decide_eq_true c1) (by decide) ?_
      refine sd_b_wk [(2, .inl (v2)), (3, .inl (v3)), (4, .inl (v4))] (List.forall_mem_cons.mpr ⟨rfl, (List.forall_mem_cons.mpr ⟨rfl, (List.forall_mem_cons.mpr ⟨rfl, (fun _ h0 => absurd h0 List.not_mem_nil)⟩)⟩)⟩) ?_
      exact hk96 v2 v3 v4 M _ h
    · rw [if_neg c1] at h
      refine sd_b_cf (c := .gt) rfl (decide_eq_false c1) (by decide) ?_
      refine sd_b_go 1 (pc2 := 38) (lv2 := [(0, .inr (.inr (some (0)))), (1, .inl (v1)), (2, .inl (v2)), (3, .inl (v3)), (4, .inl (v4)), (5, .inl (v5))]) (st2 := [.inr (.inr (some (0)))]) rfl ?_
      refine sd_b_gr (k := 12) sd_o_0 rfl rfl rfl ?_
      refine sd_b_go 1 (pc2 := 42) (lv2 := [(0, .inr (.inr (some (0)))), (1, .inl (v1)), (2, .inl (v2)), (3, .inl (v3)), (4, .inl (v4)), (5, .inl (v5))]) (st2 := [.inr (.inr (some (0))), .inr (.inr (some (318)))]) rfl ?_
      refine sd_b_gr (k := 5) sd_o_0 rfl rfl rfl ?_
      refine sd_b_gr (k := 0) sd_o_58 rfl rfl rfl ?_
      obtain ⟨r2, e2, h⟩ := sd_bnd h
      refine sd_b_call [.inr (.inr (some (318))), .inr (.inr (some (59)))] [] rfl rfl sd_i_X0_begin rfl rfl (Nat.le_of_ble_eq_true rfl) (sd_rc_v sd_o_318) (m_X0_begin (by omega) sd_o_318 e2) ?_
      refine sd_b_go 1 (pc2 := 52) (lv2 := [(0, .inr (.inr (some (0)))), (1, .inl (v1)), (2, .inl (v2)), (3, .inl (v3)), (4, .inl (v4)), (5, .inl (v5))]) (st2 := [.inr (.inr (some (0)))]) rfl ?_
      refine sd_b_gr (k := 12) sd_o_0 rfl rfl rfl ?_
      refine sd_b_gr (k := 5) sd_o_318 rfl rfl rfl ?_
      refine sd_b_go 2 (pc2 := 61) (lv2 := [(0, .inr (.inr (some (0)))), (1, .inl (v1)), (2, .inl (v2)), (3, .inl (v3)), (4, .inl (v4)), (5, .inl (v5))]) (st2 := [.inl (v5), .inl (v1), .inr (.inr (some (319)))]) rfl ?_
      obtain ⟨g3, h⟩ := sd_if h
      refine sd_b_si (sd_oa sd_o_318 (by decide) (off := 1) (List.mem_of_getElem? (i := 0) rfl)) g3 rfl ?_
      refine sd_b_go 2 (pc2 := 64) (lv2 := [(0, .inr (.inr (some (0)))), (1, .inl (v1)), (2, .inl (v2)), (3, .inl (v3)), (4, .inl (v4)), (5, .inl (v5))]) (st2 := [.inr (.inr (some (0))), .inr (.inr (some (0)))]) rfl ?_
      obtain ⟨r4, e4, h⟩ := sd_bnd h
      refine sd_b_call [.inr (.inr (some (0)))] [.inr (.inr (some (0)))] rfl rfl sd_i_X9_ruleInForce rfl rfl (Nat.le_of_ble_eq_true rfl) (sd_rc_v sd_o_0) (m_X9_ruleInForce (by omega) e4) ?_
      obtain ⟨r5, e5, h⟩ := sd_bnd h
      refine sd_b_call [.inr (.inr (some (0))), .inr (.inr (r4.1))] [] rfl rfl sd_i_X9_goesAsNoted rfl rfl (Nat.le_of_ble_eq_true rfl) (sd_rc_v sd_o_0) (m_X9_goesAsNoted (by omega) (n_X9_ruleInForce e4) e5) ?_
      by_cases c6 : r5.1 = 0
      · rw [if_pos c6] at h
        refine sd_b_zt (c := .eq) (tgt := 90) rfl (decide_eq_true c6) (by decide) ?_
        refine sd_b_wk [(0, .inr (.inr (some (0)))), (1, .inl (v1)), (2, .inl (v2)), (3, .inl (v3)), (4, .inl (v4)), (5, .inl (v5))] (List.forall_mem_cons.mpr ⟨rfl, (List.forall_mem_cons.mpr ⟨rfl, (List.forall_mem_cons.mpr ⟨rfl, (List.forall_mem_cons.mpr ⟨rfl, (List.forall_mem_cons.mpr ⟨rfl, (List.forall_mem_cons.mpr ⟨rfl, (fun _ h0 => absurd h0 List.not_mem_nil)⟩)⟩)⟩)⟩)⟩)⟩) ?_
        exact t_X9_sizes_90 hd (f_X9_sizes_29 k96 n) k96 ih hk96 v1 v2 v3 v4 v5 r5.2 _ h
      · rw [if_neg c6] at h
        refine sd_b_zf (c := .eq) rfl (decide_eq_false c6) (by decide) ?_
        refine sd_b_go 3 (pc2 := 78) (lv2 := [(3, .inl (sd_w (v3 + 1))), (0, .inr (.inr (some (0)))), (1, .inl (v1)), (2, .inl (v2)), (4, .inl (v4)), (5, .inl (v5))]) (st2 := [.inl (1), .inl (sd_w (v3 + 1))]) rfl ?_
        by_cases c7 : (sd_w (v3 + 1)) = 1
        · rw [if_pos c7] at h
          refine sd_b_cf (c := .ne) rfl (decide_eq_false (not_not_intro c7)) (by decide) ?_
          refine sd_b_go 2 (pc2 := 88) (lv2 := [(3, .inl (sd_w (v3 + 1))), (0, .inr (.inr (some (0)))), (1, .inl (v1)), (2, .inl (v2)), (4, .inl (v4)), (5, .inl (v5))]) (st2 := [.inl (v5)]) rfl ?_
          refine sd_b_wk [(0, .inr (.inr (some (0)))), (1, .inl (v1)), (2, .inl (v2)), (3, .inl (sd_w (v3 + 1))), (5, .inl (v5))] (List.forall_mem_cons.mpr ⟨rfl, (List.forall_mem_cons.mpr ⟨rfl, (List.forall_mem_cons.mpr ⟨rfl, (List.forall_mem_cons.mpr ⟨rfl, (List.forall_mem_cons.mpr ⟨rfl, (fun _ h0 => absurd h0 List.not_mem_nil)⟩)⟩)⟩)⟩)⟩) ?_
          exact t_X9_sizes_88 hd (f_X9_sizes_29 k96 n) k96 ih hk96 v1 v2 (sd_w (v3 + 1)) v5 v5 r5.2 _ h
        · rw [if_neg c7] at h
          refine sd_b_ct (c := .ne) (tgt := 86) rfl (decide_eq_true c7) (by decide) ?_
          refine sd_b_go 1 (pc2 := 88) (lv2 := [(3, .inl (sd_w (v3 + 1))), (0, .inr (.inr (some (0)))), (1, .inl (v1)), (2, .inl (v2)), (4, .inl (v4)), (5, .inl (v5))]) (st2 := [.inl (v4)]) rfl ?_
          refine sd_b_wk [(0, .inr (.inr (some (0)))), (1, .inl (v1)), (2, .inl (v2)), (3, .inl (sd_w (v3 + 1))), (5, .inl (v5))] (List.forall_mem_cons.mpr ⟨rfl, (List.forall_mem_cons.mpr ⟨rfl, (List.forall_mem_cons.mpr ⟨rfl, (List.forall_mem_cons.mpr ⟨rfl, (List.forall_mem_cons.mpr ⟨rfl, (fun _ h0 => absurd h0 List.not_mem_nil)⟩)⟩)⟩)⟩)⟩) ?_
          exact t_X9_sizes_88 hd (f_X9_sizes_29 k96 n) k96 ih hk96 v1 v2 (sd_w (v3 + 1)) v5 v4 r5.2 _ h
def f_X9_sizes_96 (v2 : Int) (v3 : Int) (v4 : Int) (M : sd_M) : Option (Int × sd_M) := if v2 = 0 then (some (v3, M)) else (some (v4, M))
set_option maxRecDepth 4000 in
theorem t_X9_sizes_96 {X : Nat → List sd_V → List sd_E → sd_A → Prop} {d : Nat} (hd : 7 ≤ d) (v2 : Int) (v3 : Int) (v4 : Int) (M : sd_M) (Rr : Int × sd_M) (h : f_X9_sizes_96 v2 v3 v4 M = some Rr) : sd_B X d sd_q_X9_sizes 96 [(2, .inl (v2)), (3, .inl (v3)), (4, .inl (v4))] [] M (some (.inl Rr.1), sd_rp Rr.2, 0, 0) := by
  unfold f_X9_sizes_96 at h
  refine sd_b_go 1 (pc2 := 97) (lv2 := [(2, .inl (v2)), (3, .inl (v3)), (4, .inl (v4))]) (st2 := [.inl (v2)]) rfl ?_
  by_cases c1 : v2 = 0
  · rw [if_pos c1] at h
    refine sd_b_zf (c := .ne) rfl (decide_eq_false (not_not_intro c1)) (by decide) ?_
    refine sd_b_go 2 (pc2 := 106) (lv2 := [(2, .inl (v2)), (3, .inl (v3)), (4, .inl (v4))]) (st2 := [.inl (v3)]) rfl ?_
    cases h
    exact sd_b_rt rfl rfl rfl
  · rw [if_neg c1] at h
    refine sd_b_zt (c := .ne) (tgt := 104) rfl (decide_eq_true c1) (by decide) ?_
    refine sd_b_go 1 (pc2 := 106) (lv2 := [(2, .inl (v2)), (3, .inl (v3)), (4, .inl (v4))]) (st2 := [.inl (v4)]) rfl ?_
    cases h
    exact sd_b_rt rfl rfl rfl
def f_X9_sizes (p1 : Int) (p2 : Int) (M : sd_M) : Option (Int × sd_M) := (f_X9_isOffer p1 M).bind fun r1 => if r1.1 = 0 then (some ((-1), r1.2)) else (if p2 < 0 then (some ((-1), r1.2)) else (if p2 ≤ 1 then (f_X9_sizes_29 (f_X9_sizes_96) 4000 p1 p2 0 ((-2)) 10 r1.2) else (some ((-1), r1.2))))
set_option maxRecDepth 4000 in
theorem t_X9_sizes {X : Nat → List sd_V → List sd_E → sd_A → Prop} {d : Nat} (hd : 7 ≤ d) (p1 : Int) (p2 : Int) (M : sd_M) (Rr : Int × sd_M) (h : f_X9_sizes p1 p2 M = some Rr) : sd_B X d sd_q_X9_sizes 0 [(0, .inr (.inr (some (0)))), (1, .inl (p1)), (2, .inl (p2))] [] M (some (.inl Rr.1), sd_rp Rr.2, 0, 0) := by
  unfold f_X9_sizes at h
  refine sd_b_go 2 (pc2 := 2) (lv2 := [(0, .inr (.inr (some (0)))), (1, .inl (p1)), (2, .inl (p2))]) (st2 := [.inl (p1), .inr (.inr (some (0)))]) rfl ?_
  obtain ⟨r1, e1, h⟩ := sd_bnd h
  refine sd_b_call [.inr (.inr (some (0))), .inl (p1)] [] rfl rfl sd_i_X9_isOffer rfl rfl (Nat.le_of_ble_eq_true rfl) (sd_rc_v sd_o_0) (m_X9_isOffer (by omega) e1) ?_
  by_cases c2 : r1.1 = 0
  · rw [if_pos c2] at h
    refine sd_b_zt (c := .eq) (tgt := 17) rfl (decide_eq_true c2) (by decide) ?_
    refine sd_b_go 1 (pc2 := 18) (lv2 := [(0, .inr (.inr (some (0)))), (1, .inl (p1)), (2, .inl (p2))]) (st2 := [.inl ((-1))]) rfl ?_
    cases h
    exact sd_b_rt rfl rfl rfl
  · rw [if_neg c2] at h
    refine sd_b_zf (c := .eq) rfl (decide_eq_false c2) (by decide) ?_
    refine sd_b_go 1 (pc2 := 9) (lv2 := [(0, .inr (.inr (some (0)))), (1, .inl (p1)), (2, .inl (p2))]) (st2 := [.inl (p2)]) rfl ?_
    by_cases c3 : p2 < 0
    · rw [if_pos c3] at h
      refine sd_b_zt (c := .lt) (tgt := 17) rfl (decide_eq_true c3) (by decide) ?_
      refine sd_b_go 1 (pc2 := 18) (lv2 := [(0, .inr (.inr (some (0)))), (1, .inl (p1)), (2, .inl (p2))]) (st2 := [.inl ((-1))]) rfl ?_
      cases h
      exact sd_b_rt rfl rfl rfl
    · rw [if_neg c3] at h
      refine sd_b_zf (c := .lt) rfl (decide_eq_false c3) (by decide) ?_
      refine sd_b_go 2 (pc2 := 14) (lv2 := [(0, .inr (.inr (some (0)))), (1, .inl (p1)), (2, .inl (p2))]) (st2 := [.inl (1), .inl (p2)]) rfl ?_
      by_cases c4 : p2 ≤ 1
      · rw [if_pos c4] at h
        refine sd_b_ct (c := .le) (tgt := 19) rfl (decide_eq_true c4) (by decide) ?_
        refine sd_b_go 6 (pc2 := 29) (lv2 := [(5, .inl (10)), (4, .inl ((-2))), (3, .inl (0)), (0, .inr (.inr (some (0)))), (1, .inl (p1)), (2, .inl (p2))]) (st2 := []) rfl ?_
        refine sd_b_wk [(0, .inr (.inr (some (0)))), (1, .inl (p1)), (2, .inl (p2)), (3, .inl (0)), (4, .inl ((-2))), (5, .inl (10))] (List.forall_mem_cons.mpr ⟨rfl, (List.forall_mem_cons.mpr ⟨rfl, (List.forall_mem_cons.mpr ⟨rfl, (List.forall_mem_cons.mpr ⟨rfl, (List.forall_mem_cons.mpr ⟨rfl, (List.forall_mem_cons.mpr ⟨rfl, (fun _ h0 => absurd h0 List.not_mem_nil)⟩)⟩)⟩)⟩)⟩)⟩) ?_
        exact t_X9_sizes_29 hd (f_X9_sizes_96) (t_X9_sizes_96 hd) 4000 p1 p2 0 ((-2)) 10 r1.2 _ h
      · rw [if_neg c4] at h
        refine sd_b_cf (c := .le) rfl (decide_eq_false c4) (by decide) ?_
        refine sd_b_go 1 (pc2 := 18) (lv2 := [(0, .inr (.inr (some (0)))), (1, .inl (p1)), (2, .inl (p2))]) (st2 := [.inl ((-1))]) rfl ?_
        cases h
        exact sd_b_rt rfl rfl rfl
theorem m_X9_sizes {X : Nat → List sd_V → List sd_E → sd_A → Prop} {d : Nat} (hd : 8 ≤ d) {p1 : Int} {p2 : Int} {M : sd_M} {Rr : Int × sd_M} (h : f_X9_sizes p1 p2 M = some Rr) : sd_Cal X d 110 [.inr (.inr (some (0))), .inl (p1), .inl (p2)] (sd_rp M) (some (.inl Rr.1), sd_rp Rr.2, 0, 0) := by
  obtain ⟨d, rfl⟩ : ∃ d2, d = d2 + 1 := ⟨d - 1, by omega⟩
  exact sd_cal_of sd_i_X9_sizes (Nat.le_of_ble_eq_true rfl) (t_X9_sizes (by omega) p1 p2 M Rr h)
-- X9_standing
def sd_q_X9_standing : sd_MI := (yX9_standing, cX9_standing, 4, (some .int), 9, 1, sd_t_X9_standing)
set_option maxRecDepth 4000 in
theorem sd_i_X9_standing : sd_mL[111]? = some sd_q_X9_standing := rfl
def f_X9_standing_60 (k14 : Int → Int → Int → sd_M → Option (Int × sd_M)) (v1 : Int) (v2 : Int) (v3 : Int) (M : sd_M) : Option (Int × sd_M) := k14 v1 v2 (sd_w (v3 + 1)) M
set_option maxRecDepth 4000 in
theorem t_X9_standing_60 {X : Nat → List sd_V → List sd_E → sd_A → Prop} {d : Nat} (hd : 7 ≤ d) (k14 : Int → Int → Int → sd_M → Option (Int × sd_M)) (hk14 : ∀ (v1 : Int) (v2 : Int) (v3 : Int) (M : sd_M) (Rr : Int × sd_M), k14 v1 v2 v3 M = some Rr → sd_B X d sd_q_X9_standing 14 [(0, .inr (.inr (some (0)))), (1, .inl (v1)), (2, .inl (v2)), (3, .inl (v3))] [] M (some (.inl Rr.1), sd_rp Rr.2, 0, 0)) (v1 : Int) (v2 : Int) (v3 : Int) (M : sd_M) (Rr : Int × sd_M) (h : f_X9_standing_60 k14 v1 v2 v3 M = some Rr) : sd_B X d sd_q_X9_standing 60 [(0, .inr (.inr (some (0)))), (1, .inl (v1)), (2, .inl (v2)), (3, .inl (v3))] [] M (some (.inl Rr.1), sd_rp Rr.2, 0, 0) := by
  unfold f_X9_standing_60 at h
  refine sd_b_go 2 (pc2 := 14) (lv2 := [(3, .inl (sd_w (v3 + 1))), (0, .inr (.inr (some (0)))), (1, .inl (v1)), (2, .inl (v2))]) (st2 := []) rfl ?_
  refine sd_b_wk [(0, .inr (.inr (some (0)))), (1, .inl (v1)), (2, .inl (v2)), (3, .inl (sd_w (v3 + 1)))] (List.forall_mem_cons.mpr ⟨rfl, (List.forall_mem_cons.mpr ⟨rfl, (List.forall_mem_cons.mpr ⟨rfl, (List.forall_mem_cons.mpr ⟨rfl, (fun _ h0 => absurd h0 List.not_mem_nil)⟩)⟩)⟩)⟩) ?_
  exact hk14 v1 v2 (sd_w (v3 + 1)) M _ h
def f_X9_standing_14 : Nat → Int → Int → Int → sd_M → Option (Int × sd_M)
  | 0, _, _, _, _ => none
  | n + 1, v1, v2, v3, M => if 1 < v3 then (some (v2, M)) else ((f_X0_begin 318 M).bind fun r2 => if 0 ≤ v1 ∧ v1 < 9 then ((f_X9_ruleInForce (sd_s r2.2 320 v1.toNat v3)).bind fun r4 => (f_X9_goesAsNoted r4.1 r4.2).bind fun r5 => if r5.1 = 0 then (f_X9_standing_60 (f_X9_standing_14 n) v1 v2 v3 r5.2) else (f_X9_standing_60 (f_X9_standing_14 n) v1 (sd_or (v2) (sd_shl (1) (v3))) v3 r5.2)) else none)
set_option maxRecDepth 4000 in
theorem t_X9_standing_14 {X : Nat → List sd_V → List sd_E → sd_A → Prop} {d : Nat} (hd : 7 ≤ d) : ∀ (n : Nat) (v1 : Int) (v2 : Int) (v3 : Int) (M : sd_M) (Rr : Int × sd_M), f_X9_standing_14 n v1 v2 v3 M = some Rr → sd_B X d sd_q_X9_standing 14 [(0, .inr (.inr (some (0)))), (1, .inl (v1)), (2, .inl (v2)), (3, .inl (v3))] [] M (some (.inl Rr.1), sd_rp Rr.2, 0, 0) := by
  intro n
  induction n with
  | zero => intro v1 v2 v3 M Rr h; cases h
  | succ n ih =>
    intro v1 v2 v3 M Rr h
    rw [f_X9_standing_14] at h
    refine sd_b_go 2 (pc2 := 16) (lv2 := [(0, .inr (.inr (some (0)))), (1, .inl (v1)), (2, .inl (v2)), (3, .inl (v3))]) (st2 := [.inl (1), .inl (v3)]) rfl ?_
    by_cases c1 : 1 < v3
    · rw [if_pos c1] at h
      refine sd_b_ct (c := .gt) (tgt := 66) rfl (decide_eq_true c1) (by decide) ?_
      refine sd_b_go 1 (pc2 := 67) (lv2 := [(0, .inr (.inr (some (0)))), (1, .inl (v1)), (2, .inl (v2)), (3, .inl (v3))]) (st2 := [.inl (v2)]) rfl ?_
      cases h
      exact sd_b_rt rfl rfl rfl
    · rw [if_neg c1] at h
      refine sd_b_cf (c := .gt) rfl (decide_eq_false c1) (by decide) ?_
      refine sd_b_go 1 (pc2 := 20) (lv2 := [(0, .inr (.inr (some (0)))), (1, .inl (v1)), (2, .inl (v2)), (3, .inl (v3))]) (st2 := [.inr (.inr (some (0)))]) rfl ?_
      refine sd_b_gr (k := 12) sd_o_0 rfl rfl rfl ?_
      refine sd_b_go 1 (pc2 := 24) (lv2 := [(0, .inr (.inr (some (0)))), (1, .inl (v1)), (2, .inl (v2)), (3, .inl (v3))]) (st2 := [.inr (.inr (some (0))), .inr (.inr (some (318)))]) rfl ?_
      refine sd_b_gr (k := 5) sd_o_0 rfl rfl rfl ?_
      refine sd_b_gr (k := 0) sd_o_58 rfl rfl rfl ?_
      obtain ⟨r2, e2, h⟩ := sd_bnd h
      refine sd_b_call [.inr (.inr (some (318))), .inr (.inr (some (59)))] [] rfl rfl sd_i_X0_begin rfl rfl (Nat.le_of_ble_eq_true rfl) (sd_rc_v sd_o_318) (m_X0_begin (by omega) sd_o_318 e2) ?_
      refine sd_b_go 1 (pc2 := 34) (lv2 := [(0, .inr (.inr (some (0)))), (1, .inl (v1)), (2, .inl (v2)), (3, .inl (v3))]) (st2 := [.inr (.inr (some (0)))]) rfl ?_
      refine sd_b_gr (k := 12) sd_o_0 rfl rfl rfl ?_
      refine sd_b_gr (k := 6) sd_o_318 rfl rfl rfl ?_
      refine sd_b_go 2 (pc2 := 42) (lv2 := [(0, .inr (.inr (some (0)))), (1, .inl (v1)), (2, .inl (v2)), (3, .inl (v3))]) (st2 := [.inl (v3), .inl (v1), .inr (.inr (some (320)))]) rfl ?_
      obtain ⟨g3, h⟩ := sd_if h
      refine sd_b_si (sd_oa sd_o_318 (by decide) (off := 2) (List.mem_of_getElem? (i := 1) rfl)) g3 rfl ?_
      refine sd_b_go 2 (pc2 := 45) (lv2 := [(0, .inr (.inr (some (0)))), (1, .inl (v1)), (2, .inl (v2)), (3, .inl (v3))]) (st2 := [.inr (.inr (some (0))), .inr (.inr (some (0)))]) rfl ?_
      obtain ⟨r4, e4, h⟩ := sd_bnd h
      refine sd_b_call [.inr (.inr (some (0)))] [.inr (.inr (some (0)))] rfl rfl sd_i_X9_ruleInForce rfl rfl (Nat.le_of_ble_eq_true rfl) (sd_rc_v sd_o_0) (m_X9_ruleInForce (by omega) e4) ?_
      obtain ⟨r5, e5, h⟩ := sd_bnd h
      refine sd_b_call [.inr (.inr (some (0))), .inr (.inr (r4.1))] [] rfl rfl sd_i_X9_goesAsNoted rfl rfl (Nat.le_of_ble_eq_true rfl) (sd_rc_v sd_o_0) (m_X9_goesAsNoted (by omega) (n_X9_ruleInForce e4) e5) ?_
      by_cases c6 : r5.1 = 0
      · rw [if_pos c6] at h
        refine sd_b_zt (c := .eq) (tgt := 60) rfl (decide_eq_true c6) (by decide) ?_
        refine sd_b_wk [(0, .inr (.inr (some (0)))), (1, .inl (v1)), (2, .inl (v2)), (3, .inl (v3))] (List.forall_mem_cons.mpr ⟨rfl, (List.forall_mem_cons.mpr ⟨rfl, (List.forall_mem_cons.mpr ⟨rfl, (List.forall_mem_cons.mpr ⟨rfl, (fun _ h0 => absurd h0 List.not_mem_nil)⟩)⟩)⟩)⟩) ?_
        exact t_X9_standing_60 hd (f_X9_standing_14 n) ih v1 v2 v3 r5.2 _ h
      · rw [if_neg c6] at h
        refine sd_b_zf (c := .eq) rfl (decide_eq_false c6) (by decide) ?_
        refine sd_b_go 6 (pc2 := 60) (lv2 := [(2, .inl (sd_or (v2) (sd_shl (1) (v3)))), (0, .inr (.inr (some (0)))), (1, .inl (v1)), (3, .inl (v3))]) (st2 := []) rfl ?_
        refine sd_b_wk [(0, .inr (.inr (some (0)))), (1, .inl (v1)), (2, .inl (sd_or (v2) (sd_shl (1) (v3)))), (3, .inl (v3))] (List.forall_mem_cons.mpr ⟨rfl, (List.forall_mem_cons.mpr ⟨rfl, (List.forall_mem_cons.mpr ⟨rfl, (List.forall_mem_cons.mpr ⟨rfl, (fun _ h0 => absurd h0 List.not_mem_nil)⟩)⟩)⟩)⟩) ?_
        exact t_X9_standing_60 hd (f_X9_standing_14 n) ih v1 (sd_or (v2) (sd_shl (1) (v3))) v3 r5.2 _ h
def f_X9_standing (p1 : Int) (M : sd_M) : Option (Int × sd_M) := (f_X9_isOffer p1 M).bind fun r1 => if r1.1 = 0 then (some ((-1), r1.2)) else (f_X9_standing_14 4000 p1 0 0 r1.2)
set_option maxRecDepth 4000 in
theorem t_X9_standing {X : Nat → List sd_V → List sd_E → sd_A → Prop} {d : Nat} (hd : 7 ≤ d) (p1 : Int) (M : sd_M) (Rr : Int × sd_M) (h : f_X9_standing p1 M = some Rr) : sd_B X d sd_q_X9_standing 0 [(0, .inr (.inr (some (0)))), (1, .inl (p1))] [] M (some (.inl Rr.1), sd_rp Rr.2, 0, 0) := by
  unfold f_X9_standing at h
  refine sd_b_go 2 (pc2 := 2) (lv2 := [(0, .inr (.inr (some (0)))), (1, .inl (p1))]) (st2 := [.inl (p1), .inr (.inr (some (0)))]) rfl ?_
  obtain ⟨r1, e1, h⟩ := sd_bnd h
  refine sd_b_call [.inr (.inr (some (0))), .inl (p1)] [] rfl rfl sd_i_X9_isOffer rfl rfl (Nat.le_of_ble_eq_true rfl) (sd_rc_v sd_o_0) (m_X9_isOffer (by omega) e1) ?_
  by_cases c2 : r1.1 = 0
  · rw [if_pos c2] at h
    refine sd_b_zf (c := .ne) rfl (decide_eq_false (not_not_intro c2)) (by decide) ?_
    refine sd_b_go 1 (pc2 := 9) (lv2 := [(0, .inr (.inr (some (0)))), (1, .inl (p1))]) (st2 := [.inl ((-1))]) rfl ?_
    cases h
    exact sd_b_rt rfl rfl rfl
  · rw [if_neg c2] at h
    refine sd_b_zt (c := .ne) (tgt := 10) rfl (decide_eq_true c2) (by decide) ?_
    refine sd_b_go 4 (pc2 := 14) (lv2 := [(3, .inl (0)), (2, .inl (0)), (0, .inr (.inr (some (0)))), (1, .inl (p1))]) (st2 := []) rfl ?_
    refine sd_b_wk [(0, .inr (.inr (some (0)))), (1, .inl (p1)), (2, .inl (0)), (3, .inl (0))] (List.forall_mem_cons.mpr ⟨rfl, (List.forall_mem_cons.mpr ⟨rfl, (List.forall_mem_cons.mpr ⟨rfl, (List.forall_mem_cons.mpr ⟨rfl, (fun _ h0 => absurd h0 List.not_mem_nil)⟩)⟩)⟩)⟩) ?_
    exact t_X9_standing_14 hd 4000 p1 0 0 r1.2 _ h
theorem m_X9_standing {X : Nat → List sd_V → List sd_E → sd_A → Prop} {d : Nat} (hd : 8 ≤ d) {p1 : Int} {M : sd_M} {Rr : Int × sd_M} (h : f_X9_standing p1 M = some Rr) : sd_Cal X d 111 [.inr (.inr (some (0))), .inl (p1)] (sd_rp M) (some (.inl Rr.1), sd_rp Rr.2, 0, 0) := by
  obtain ⟨d, rfl⟩ : ∃ d2, d = d2 + 1 := ⟨d - 1, by omega⟩
  exact sd_cal_of sd_i_X9_standing (Nat.le_of_ble_eq_true rfl) (t_X9_standing (by omega) p1 M Rr h)
-- X9_ruled
def sd_q_X9_ruled : sd_MI := (yX9_ruled, cX9_ruled, 5, (some .int), 9, 1, sd_t_X9_ruled)
set_option maxRecDepth 4000 in
theorem sd_i_X9_ruled : sd_mL[112]? = some sd_q_X9_ruled := rfl
def f_X9_ruled_84 (k33 : Int → Int → Int → Int → sd_M → Option (Int × sd_M)) (k90 : Int → Int → Int → sd_M → Option (Int × sd_M)) (v1 : Int) (v2 : Int) (v3 : Int) (v4 : Int) (M : sd_M) : Option (Int × sd_M) := k33 v1 v2 v3 (sd_w (v4 + 1)) M
set_option maxRecDepth 4000 in
theorem t_X9_ruled_84 {X : Nat → List sd_V → List sd_E → sd_A → Prop} {d : Nat} (hd : 7 ≤ d) (k33 : Int → Int → Int → Int → sd_M → Option (Int × sd_M)) (k90 : Int → Int → Int → sd_M → Option (Int × sd_M)) (hk33 : ∀ (v1 : Int) (v2 : Int) (v3 : Int) (v4 : Int) (M : sd_M) (Rr : Int × sd_M), k33 v1 v2 v3 v4 M = some Rr → sd_B X d sd_q_X9_ruled 33 [(0, .inr (.inr (some (0)))), (1, .inl (v1)), (2, .inl (v2)), (3, .inl (v3)), (4, .inl (v4))] [] M (some (.inl Rr.1), sd_rp Rr.2, 0, 0)) (hk90 : ∀ (v1 : Int) (v2 : Int) (v3 : Int) (M : sd_M) (Rr : Int × sd_M), k90 v1 v2 v3 M = some Rr → sd_B X d sd_q_X9_ruled 90 [(1, .inl (v1)), (2, .inl (v2)), (3, .inl (v3))] [] M (some (.inl Rr.1), sd_rp Rr.2, 0, 0)) (v1 : Int) (v2 : Int) (v3 : Int) (v4 : Int) (M : sd_M) (Rr : Int × sd_M) (h : f_X9_ruled_84 k33 k90 v1 v2 v3 v4 M = some Rr) : sd_B X d sd_q_X9_ruled 84 [(0, .inr (.inr (some (0)))), (1, .inl (v1)), (2, .inl (v2)), (3, .inl (v3)), (4, .inl (v4))] [] M (some (.inl Rr.1), sd_rp Rr.2, 0, 0) := by
  unfold f_X9_ruled_84 at h
  refine sd_b_go 2 (pc2 := 33) (lv2 := [(4, .inl (sd_w (v4 + 1))), (0, .inr (.inr (some (0)))), (1, .inl (v1)), (2, .inl (v2)), (3, .inl (v3))]) (st2 := []) rfl ?_
  refine sd_b_wk [(0, .inr (.inr (some (0)))), (1, .inl (v1)), (2, .inl (v2)), (3, .inl (v3)), (4, .inl (sd_w (v4 + 1)))] (List.forall_mem_cons.mpr ⟨rfl, (List.forall_mem_cons.mpr ⟨rfl, (List.forall_mem_cons.mpr ⟨rfl, (List.forall_mem_cons.mpr ⟨rfl, (List.forall_mem_cons.mpr ⟨rfl, (fun _ h0 => absurd h0 List.not_mem_nil)⟩)⟩)⟩)⟩)⟩) ?_
  exact hk33 v1 v2 v3 (sd_w (v4 + 1)) M _ h
def f_X9_ruled_83 (k33 : Int → Int → Int → Int → sd_M → Option (Int × sd_M)) (k90 : Int → Int → Int → sd_M → Option (Int × sd_M)) (v1 : Int) (v2 : Int) (v4 : Int) (s0 : Int) (M : sd_M) : Option (Int × sd_M) := f_X9_ruled_84 k33 k90 v1 v2 s0 v4 M
set_option maxRecDepth 4000 in
theorem t_X9_ruled_83 {X : Nat → List sd_V → List sd_E → sd_A → Prop} {d : Nat} (hd : 7 ≤ d) (k33 : Int → Int → Int → Int → sd_M → Option (Int × sd_M)) (k90 : Int → Int → Int → sd_M → Option (Int × sd_M)) (hk33 : ∀ (v1 : Int) (v2 : Int) (v3 : Int) (v4 : Int) (M : sd_M) (Rr : Int × sd_M), k33 v1 v2 v3 v4 M = some Rr → sd_B X d sd_q_X9_ruled 33 [(0, .inr (.inr (some (0)))), (1, .inl (v1)), (2, .inl (v2)), (3, .inl (v3)), (4, .inl (v4))] [] M (some (.inl Rr.1), sd_rp Rr.2, 0, 0)) (hk90 : ∀ (v1 : Int) (v2 : Int) (v3 : Int) (M : sd_M) (Rr : Int × sd_M), k90 v1 v2 v3 M = some Rr → sd_B X d sd_q_X9_ruled 90 [(1, .inl (v1)), (2, .inl (v2)), (3, .inl (v3))] [] M (some (.inl Rr.1), sd_rp Rr.2, 0, 0)) (v1 : Int) (v2 : Int) (v4 : Int) (s0 : Int) (M : sd_M) (Rr : Int × sd_M) (h : f_X9_ruled_83 k33 k90 v1 v2 v4 s0 M = some Rr) : sd_B X d sd_q_X9_ruled 83 [(0, .inr (.inr (some (0)))), (1, .inl (v1)), (2, .inl (v2)), (4, .inl (v4))] [.inl (s0)] M (some (.inl Rr.1), sd_rp Rr.2, 0, 0) := by
  unfold f_X9_ruled_83 at h
  refine sd_b_go 1 (pc2 := 84) (lv2 := [(3, .inl (s0)), (0, .inr (.inr (some (0)))), (1, .inl (v1)), (2, .inl (v2)), (4, .inl (v4))]) (st2 := []) rfl ?_
  refine sd_b_wk [(0, .inr (.inr (some (0)))), (1, .inl (v1)), (2, .inl (v2)), (3, .inl (s0)), (4, .inl (v4))] (List.forall_mem_cons.mpr ⟨rfl, (List.forall_mem_cons.mpr ⟨rfl, (List.forall_mem_cons.mpr ⟨rfl, (List.forall_mem_cons.mpr ⟨rfl, (List.forall_mem_cons.mpr ⟨rfl, (fun _ h0 => absurd h0 List.not_mem_nil)⟩)⟩)⟩)⟩)⟩) ?_
  exact t_X9_ruled_84 hd k33 k90 hk33 hk90 v1 v2 s0 v4 M _ h
def f_X9_ruled_33 (k90 : Int → Int → Int → sd_M → Option (Int × sd_M)) : Nat → Int → Int → Int → Int → sd_M → Option (Int × sd_M)
  | 0, _, _, _, _, _ => none
  | n + 1, v1, v2, v3, v4, M => if (M 0 4) ≤ v4 then (k90 v1 v2 v3 M) else ((f_X0_begin 318 M).bind fun r2 => (f_X9_ruleAt v4 r2.2).bind fun r3 => (f_X9_goesAsNoted r3.1 r3.2).bind fun r4 => if r4.1 = 0 then (f_X9_ruled_84 (f_X9_ruled_33 k90 n) k90 v1 v2 v3 v4 r4.2) else (if (sd_w (v2 + 1)) = 1 then (f_X9_ruled_83 (f_X9_ruled_33 k90 n) k90 v1 (sd_w (v2 + 1)) v4 v4 r4.2) else (f_X9_ruled_83 (f_X9_ruled_33 k90 n) k90 v1 (sd_w (v2 + 1)) v4 v3 r4.2)))
set_option maxRecDepth 4000 in
theorem t_X9_ruled_33 {X : Nat → List sd_V → List sd_E → sd_A → Prop} {d : Nat} (hd : 7 ≤ d) (k90 : Int → Int → Int → sd_M → Option (Int × sd_M)) (hk90 : ∀ (v1 : Int) (v2 : Int) (v3 : Int) (M : sd_M) (Rr : Int × sd_M), k90 v1 v2 v3 M = some Rr → sd_B X d sd_q_X9_ruled 90 [(1, .inl (v1)), (2, .inl (v2)), (3, .inl (v3))] [] M (some (.inl Rr.1), sd_rp Rr.2, 0, 0)) : ∀ (n : Nat) (v1 : Int) (v2 : Int) (v3 : Int) (v4 : Int) (M : sd_M) (Rr : Int × sd_M), f_X9_ruled_33 k90 n v1 v2 v3 v4 M = some Rr → sd_B X d sd_q_X9_ruled 33 [(0, .inr (.inr (some (0)))), (1, .inl (v1)), (2, .inl (v2)), (3, .inl (v3)), (4, .inl (v4))] [] M (some (.inl Rr.1), sd_rp Rr.2, 0, 0) := by
  intro n
  induction n with
  | zero => intro v1 v2 v3 v4 M Rr h; cases h
  | succ n ih =>
    intro v1 v2 v3 v4 M Rr h
    rw [f_X9_ruled_33] at h
    refine sd_b_go 2 (pc2 := 36) (lv2 := [(0, .inr (.inr (some (0)))), (1, .inl (v1)), (2, .inl (v2)), (3, .inl (v3)), (4, .inl (v4))]) (st2 := [.inr (.inr (some (0))), .inl (v4)]) rfl ?_
    refine sd_b_gi (k := 4) sd_o_0 rfl rfl rfl ?_
    by_cases c1 : (M 0 4) ≤ v4
    · rw [if_pos c1] at h
      refine sd_b_ct (c := .ge) (tgt := 90) rfl (decide_eq_true c1) (by decide) ?_
      refine sd_b_wk [(1, .inl (v1)), (2, .inl (v2)), (3, .inl (v3))] (List.forall_mem_cons.mpr ⟨rfl, (List.forall_mem_cons.mpr ⟨rfl, (List.forall_mem_cons.mpr ⟨rfl, (fun _ h0 => absurd h0 List.not_mem_nil)⟩)⟩)⟩) ?_
      exact hk90 v1 v2 v3 M _ h
    · rw [if_neg c1] at h
      refine sd_b_cf (c := .ge) rfl (decide_eq_false c1) (by decide) ?_
      refine sd_b_go 1 (pc2 := 43) (lv2 := [(0, .inr (.inr (some (0)))), (1, .inl (v1)), (2, .inl (v2)), (3, .inl (v3)), (4, .inl (v4))]) (st2 := [.inr (.inr (some (0)))]) rfl ?_
      refine sd_b_gr (k := 12) sd_o_0 rfl rfl rfl ?_
      refine sd_b_go 1 (pc2 := 47) (lv2 := [(0, .inr (.inr (some (0)))), (1, .inl (v1)), (2, .inl (v2)), (3, .inl (v3)), (4, .inl (v4))]) (st2 := [.inr (.inr (some (0))), .inr (.inr (some (318)))]) rfl ?_
      refine sd_b_gr (k := 5) sd_o_0 rfl rfl rfl ?_
      refine sd_b_gr (k := 0) sd_o_58 rfl rfl rfl ?_
      obtain ⟨r2, e2, h⟩ := sd_bnd h
      refine sd_b_call [.inr (.inr (some (318))), .inr (.inr (some (59)))] [] rfl rfl sd_i_X0_begin rfl rfl (Nat.le_of_ble_eq_true rfl) (sd_rc_v sd_o_318) (m_X0_begin (by omega) sd_o_318 e2) ?_
      refine sd_b_go 3 (pc2 := 60) (lv2 := [(0, .inr (.inr (some (0)))), (1, .inl (v1)), (2, .inl (v2)), (3, .inl (v3)), (4, .inl (v4))]) (st2 := [.inl (v4), .inr (.inr (some (0))), .inr (.inr (some (0)))]) rfl ?_
      obtain ⟨r3, e3, h⟩ := sd_bnd h
      refine sd_b_call [.inr (.inr (some (0))), .inl (v4)] [.inr (.inr (some (0)))] rfl rfl sd_i_X9_ruleAt rfl rfl (Nat.le_of_ble_eq_true rfl) (sd_rc_v sd_o_0) (m_X9_ruleAt (by omega) e3) ?_
      obtain ⟨r4, e4, h⟩ := sd_bnd h
      refine sd_b_call [.inr (.inr (some (0))), .inr (.inr (r3.1))] [] rfl rfl sd_i_X9_goesAsNoted rfl rfl (Nat.le_of_ble_eq_true rfl) (sd_rc_v sd_o_0) (m_X9_goesAsNoted (by omega) (n_X9_ruleAt e3) e4) ?_
      by_cases c5 : r4.1 = 0
      · rw [if_pos c5] at h
        refine sd_b_zt (c := .eq) (tgt := 84) rfl (decide_eq_true c5) (by decide) ?_
        refine sd_b_wk [(0, .inr (.inr (some (0)))), (1, .inl (v1)), (2, .inl (v2)), (3, .inl (v3)), (4, .inl (v4))] (List.forall_mem_cons.mpr ⟨rfl, (List.forall_mem_cons.mpr ⟨rfl, (List.forall_mem_cons.mpr ⟨rfl, (List.forall_mem_cons.mpr ⟨rfl, (List.forall_mem_cons.mpr ⟨rfl, (fun _ h0 => absurd h0 List.not_mem_nil)⟩)⟩)⟩)⟩)⟩) ?_
        exact t_X9_ruled_84 hd (f_X9_ruled_33 k90 n) k90 ih hk90 v1 v2 v3 v4 r4.2 _ h
      · rw [if_neg c5] at h
        refine sd_b_zf (c := .eq) rfl (decide_eq_false c5) (by decide) ?_
        refine sd_b_go 3 (pc2 := 74) (lv2 := [(2, .inl (sd_w (v2 + 1))), (0, .inr (.inr (some (0)))), (1, .inl (v1)), (3, .inl (v3)), (4, .inl (v4))]) (st2 := [.inl (1), .inl (sd_w (v2 + 1))]) rfl ?_
        by_cases c6 : (sd_w (v2 + 1)) = 1
        · rw [if_pos c6] at h
          refine sd_b_cf (c := .ne) rfl (decide_eq_false (not_not_intro c6)) (by decide) ?_
          refine sd_b_go 2 (pc2 := 83) (lv2 := [(2, .inl (sd_w (v2 + 1))), (0, .inr (.inr (some (0)))), (1, .inl (v1)), (3, .inl (v3)), (4, .inl (v4))]) (st2 := [.inl (v4)]) rfl ?_
          refine sd_b_wk [(0, .inr (.inr (some (0)))), (1, .inl (v1)), (2, .inl (sd_w (v2 + 1))), (4, .inl (v4))] (List.forall_mem_cons.mpr ⟨rfl, (List.forall_mem_cons.mpr ⟨rfl, (List.forall_mem_cons.mpr ⟨rfl, (List.forall_mem_cons.mpr ⟨rfl, (fun _ h0 => absurd h0 List.not_mem_nil)⟩)⟩)⟩)⟩) ?_
          exact t_X9_ruled_83 hd (f_X9_ruled_33 k90 n) k90 ih hk90 v1 (sd_w (v2 + 1)) v4 v4 r4.2 _ h
        · rw [if_neg c6] at h
          refine sd_b_ct (c := .ne) (tgt := 82) rfl (decide_eq_true c6) (by decide) ?_
          refine sd_b_go 1 (pc2 := 83) (lv2 := [(2, .inl (sd_w (v2 + 1))), (0, .inr (.inr (some (0)))), (1, .inl (v1)), (3, .inl (v3)), (4, .inl (v4))]) (st2 := [.inl (v3)]) rfl ?_
          refine sd_b_wk [(0, .inr (.inr (some (0)))), (1, .inl (v1)), (2, .inl (sd_w (v2 + 1))), (4, .inl (v4))] (List.forall_mem_cons.mpr ⟨rfl, (List.forall_mem_cons.mpr ⟨rfl, (List.forall_mem_cons.mpr ⟨rfl, (List.forall_mem_cons.mpr ⟨rfl, (fun _ h0 => absurd h0 List.not_mem_nil)⟩)⟩)⟩)⟩) ?_
          exact t_X9_ruled_83 hd (f_X9_ruled_33 k90 n) k90 ih hk90 v1 (sd_w (v2 + 1)) v4 v3 r4.2 _ h
def f_X9_ruled_90 (v1 : Int) (v2 : Int) (v3 : Int) (M : sd_M) : Option (Int × sd_M) := if v1 = 0 then (some (v2, M)) else (some (v3, M))
set_option maxRecDepth 4000 in
theorem t_X9_ruled_90 {X : Nat → List sd_V → List sd_E → sd_A → Prop} {d : Nat} (hd : 7 ≤ d) (v1 : Int) (v2 : Int) (v3 : Int) (M : sd_M) (Rr : Int × sd_M) (h : f_X9_ruled_90 v1 v2 v3 M = some Rr) : sd_B X d sd_q_X9_ruled 90 [(1, .inl (v1)), (2, .inl (v2)), (3, .inl (v3))] [] M (some (.inl Rr.1), sd_rp Rr.2, 0, 0) := by
  unfold f_X9_ruled_90 at h
  refine sd_b_go 1 (pc2 := 91) (lv2 := [(1, .inl (v1)), (2, .inl (v2)), (3, .inl (v3))]) (st2 := [.inl (v1)]) rfl ?_
  by_cases c1 : v1 = 0
  · rw [if_pos c1] at h
    refine sd_b_zf (c := .ne) rfl (decide_eq_false (not_not_intro c1)) (by decide) ?_
    refine sd_b_go 2 (pc2 := 99) (lv2 := [(1, .inl (v1)), (2, .inl (v2)), (3, .inl (v3))]) (st2 := [.inl (v2)]) rfl ?_
    cases h
    exact sd_b_rt rfl rfl rfl
  · rw [if_neg c1] at h
    refine sd_b_zt (c := .ne) (tgt := 98) rfl (decide_eq_true c1) (by decide) ?_
    refine sd_b_go 1 (pc2 := 99) (lv2 := [(1, .inl (v1)), (2, .inl (v2)), (3, .inl (v3))]) (st2 := [.inl (v3)]) rfl ?_
    cases h
    exact sd_b_rt rfl rfl rfl
def f_X9_ruled (p1 : Int) (M : sd_M) : Option (Int × sd_M) := if (M 59 0) = 0 then (some ((-3), M)) else (if p1 < 0 then (some ((-3), M)) else (if p1 ≤ 1 then (f_X9_ruled_33 (f_X9_ruled_90) 4000 p1 0 ((-2)) ((-1)) M) else (some ((-3), M))))
set_option maxRecDepth 4000 in
theorem t_X9_ruled {X : Nat → List sd_V → List sd_E → sd_A → Prop} {d : Nat} (hd : 7 ≤ d) (p1 : Int) (M : sd_M) (Rr : Int × sd_M) (h : f_X9_ruled p1 M = some Rr) : sd_B X d sd_q_X9_ruled 0 [(0, .inr (.inr (some (0)))), (1, .inl (p1))] [] M (some (.inl Rr.1), sd_rp Rr.2, 0, 0) := by
  unfold f_X9_ruled at h
  refine sd_b_go 1 (pc2 := 1) (lv2 := [(0, .inr (.inr (some (0)))), (1, .inl (p1))]) (st2 := [.inr (.inr (some (0)))]) rfl ?_
  refine sd_b_gr (k := 5) sd_o_0 rfl rfl rfl ?_
  refine sd_b_gr (k := 0) sd_o_58 rfl rfl rfl ?_
  refine sd_b_gi (k := 0) sd_o_59 rfl rfl rfl ?_
  by_cases c1 : (M 59 0) = 0
  · rw [if_pos c1] at h
    refine sd_b_zt (c := .eq) (tgt := 22) rfl (decide_eq_true c1) (by decide) ?_
    refine sd_b_go 1 (pc2 := 24) (lv2 := [(0, .inr (.inr (some (0)))), (1, .inl (p1))]) (st2 := [.inl ((-3))]) rfl ?_
    cases h
    exact sd_b_rt rfl rfl rfl
  · rw [if_neg c1] at h
    refine sd_b_zf (c := .eq) rfl (decide_eq_false c1) (by decide) ?_
    refine sd_b_go 1 (pc2 := 14) (lv2 := [(0, .inr (.inr (some (0)))), (1, .inl (p1))]) (st2 := [.inl (p1)]) rfl ?_
    by_cases c2 : p1 < 0
    · rw [if_pos c2] at h
      refine sd_b_zt (c := .lt) (tgt := 22) rfl (decide_eq_true c2) (by decide) ?_
      refine sd_b_go 1 (pc2 := 24) (lv2 := [(0, .inr (.inr (some (0)))), (1, .inl (p1))]) (st2 := [.inl ((-3))]) rfl ?_
      cases h
      exact sd_b_rt rfl rfl rfl
    · rw [if_neg c2] at h
      refine sd_b_zf (c := .lt) rfl (decide_eq_false c2) (by decide) ?_
      refine sd_b_go 2 (pc2 := 19) (lv2 := [(0, .inr (.inr (some (0)))), (1, .inl (p1))]) (st2 := [.inl (1), .inl (p1)]) rfl ?_
      by_cases c3 : p1 ≤ 1
      · rw [if_pos c3] at h
        refine sd_b_ct (c := .le) (tgt := 25) rfl (decide_eq_true c3) (by decide) ?_
        refine sd_b_go 6 (pc2 := 33) (lv2 := [(4, .inl ((-1))), (3, .inl ((-2))), (2, .inl (0)), (0, .inr (.inr (some (0)))), (1, .inl (p1))]) (st2 := []) rfl ?_
        refine sd_b_wk [(0, .inr (.inr (some (0)))), (1, .inl (p1)), (2, .inl (0)), (3, .inl ((-2))), (4, .inl ((-1)))] (List.forall_mem_cons.mpr ⟨rfl, (List.forall_mem_cons.mpr ⟨rfl, (List.forall_mem_cons.mpr ⟨rfl, (List.forall_mem_cons.mpr ⟨rfl, (List.forall_mem_cons.mpr ⟨rfl, (fun _ h0 => absurd h0 List.not_mem_nil)⟩)⟩)⟩)⟩)⟩) ?_
        exact t_X9_ruled_33 hd (f_X9_ruled_90) (t_X9_ruled_90 hd) 4000 p1 0 ((-2)) ((-1)) M _ h
      · rw [if_neg c3] at h
        refine sd_b_cf (c := .le) rfl (decide_eq_false c3) (by decide) ?_
        refine sd_b_go 1 (pc2 := 24) (lv2 := [(0, .inr (.inr (some (0)))), (1, .inl (p1))]) (st2 := [.inl ((-3))]) rfl ?_
        cases h
        exact sd_b_rt rfl rfl rfl
theorem m_X9_ruled {X : Nat → List sd_V → List sd_E → sd_A → Prop} {d : Nat} (hd : 8 ≤ d) {p1 : Int} {M : sd_M} {Rr : Int × sd_M} (h : f_X9_ruled p1 M = some Rr) : sd_Cal X d 112 [.inr (.inr (some (0))), .inl (p1)] (sd_rp M) (some (.inl Rr.1), sd_rp Rr.2, 0, 0) := by
  obtain ⟨d, rfl⟩ : ∃ d2, d = d2 + 1 := ⟨d - 1, by omega⟩
  exact sd_cal_of sd_i_X9_ruled (Nat.le_of_ble_eq_true rfl) (t_X9_ruled (by omega) p1 M Rr h)
-- X9_look
def sd_q_X9_look : sd_MI := (yX9_look, cX9_look, 7, (some .int), 9, 1, sd_t_X9_look)
set_option maxRecDepth 4000 in
theorem sd_i_X9_look : sd_mL[113]? = some sd_q_X9_look := rfl
def f_X9_look_77 (k47 : Int → Int → Int → Int → Int → sd_M → Option (Int × sd_M)) (k83 : Int → Int → Int → sd_M → Option (Int × sd_M)) (v1 : Int) (v2 : Int) (v3 : Int) (v4 : Int) (v5 : Int) (M : sd_M) : Option (Int × sd_M) := k47 v1 v2 v3 v4 (sd_w (v5 + 1)) M
set_option maxRecDepth 4000 in
theorem t_X9_look_77 {X : Nat → List sd_V → List sd_E → sd_A → Prop} {d : Nat} (hd : 7 ≤ d) (k47 : Int → Int → Int → Int → Int → sd_M → Option (Int × sd_M)) (k83 : Int → Int → Int → sd_M → Option (Int × sd_M)) (hk47 : ∀ (v1 : Int) (v2 : Int) (v3 : Int) (v4 : Int) (v5 : Int) (M : sd_M) (Rr : Int × sd_M), k47 v1 v2 v3 v4 v5 M = some Rr → sd_B X d sd_q_X9_look 47 [(0, .inr (.inr (some (0)))), (1, .inl (v1)), (2, .inl (v2)), (3, .inl (v3)), (4, .inl (v4)), (5, .inl (v5))] [] M (some (.inl Rr.1), sd_rp Rr.2, 0, 0)) (hk83 : ∀ (v1 : Int) (v3 : Int) (v4 : Int) (M : sd_M) (Rr : Int × sd_M), k83 v1 v3 v4 M = some Rr → sd_B X d sd_q_X9_look 83 [(1, .inl (v1)), (3, .inl (v3)), (4, .inl (v4))] [] M (some (.inl Rr.1), sd_rp Rr.2, 0, 0)) (v1 : Int) (v2 : Int) (v3 : Int) (v4 : Int) (v5 : Int) (M : sd_M) (Rr : Int × sd_M) (h : f_X9_look_77 k47 k83 v1 v2 v3 v4 v5 M = some Rr) : sd_B X d sd_q_X9_look 77 [(0, .inr (.inr (some (0)))), (1, .inl (v1)), (2, .inl (v2)), (3, .inl (v3)), (4, .inl (v4)), (5, .inl (v5))] [] M (some (.inl Rr.1), sd_rp Rr.2, 0, 0) := by
  unfold f_X9_look_77 at h
  refine sd_b_go 2 (pc2 := 47) (lv2 := [(5, .inl (sd_w (v5 + 1))), (0, .inr (.inr (some (0)))), (1, .inl (v1)), (2, .inl (v2)), (3, .inl (v3)), (4, .inl (v4))]) (st2 := []) rfl ?_
  refine sd_b_wk [(0, .inr (.inr (some (0)))), (1, .inl (v1)), (2, .inl (v2)), (3, .inl (v3)), (4, .inl (v4)), (5, .inl (sd_w (v5 + 1)))] (List.forall_mem_cons.mpr ⟨rfl, (List.forall_mem_cons.mpr ⟨rfl, (List.forall_mem_cons.mpr ⟨rfl, (List.forall_mem_cons.mpr ⟨rfl, (List.forall_mem_cons.mpr ⟨rfl, (List.forall_mem_cons.mpr ⟨rfl, (fun _ h0 => absurd h0 List.not_mem_nil)⟩)⟩)⟩)⟩)⟩)⟩) ?_
  exact hk47 v1 v2 v3 v4 (sd_w (v5 + 1)) M _ h
def f_X9_look_47 (k83 : Int → Int → Int → sd_M → Option (Int × sd_M)) : Nat → Int → Int → Int → Int → Int → sd_M → Option (Int × sd_M)
  | 0, _, _, _, _, _, _ => none
  | n + 1, v1, v2, v3, v4, v5, M => if 31 ≤ v5 then (k83 v1 v3 v4 M) else ((f_X9_mostAlike v5 v2 M).bind fun r2 => if v4 ≤ r2.1 then (f_X9_look_77 (f_X9_look_47 k83 n) k83 v1 v2 v3 v4 v5 r2.2) else (f_X9_look_77 (f_X9_look_47 k83 n) k83 v1 v2 v5 r2.1 v5 r2.2))
set_option maxRecDepth 4000 in
theorem t_X9_look_47 {X : Nat → List sd_V → List sd_E → sd_A → Prop} {d : Nat} (hd : 7 ≤ d) (k83 : Int → Int → Int → sd_M → Option (Int × sd_M)) (hk83 : ∀ (v1 : Int) (v3 : Int) (v4 : Int) (M : sd_M) (Rr : Int × sd_M), k83 v1 v3 v4 M = some Rr → sd_B X d sd_q_X9_look 83 [(1, .inl (v1)), (3, .inl (v3)), (4, .inl (v4))] [] M (some (.inl Rr.1), sd_rp Rr.2, 0, 0)) : ∀ (n : Nat) (v1 : Int) (v2 : Int) (v3 : Int) (v4 : Int) (v5 : Int) (M : sd_M) (Rr : Int × sd_M), f_X9_look_47 k83 n v1 v2 v3 v4 v5 M = some Rr → sd_B X d sd_q_X9_look 47 [(0, .inr (.inr (some (0)))), (1, .inl (v1)), (2, .inl (v2)), (3, .inl (v3)), (4, .inl (v4)), (5, .inl (v5))] [] M (some (.inl Rr.1), sd_rp Rr.2, 0, 0) := by
  intro n
  induction n with
  | zero => intro v1 v2 v3 v4 v5 M Rr h; cases h
  | succ n ih =>
    intro v1 v2 v3 v4 v5 M Rr h
    rw [f_X9_look_47] at h
    refine sd_b_go 2 (pc2 := 51) (lv2 := [(0, .inr (.inr (some (0)))), (1, .inl (v1)), (2, .inl (v2)), (3, .inl (v3)), (4, .inl (v4)), (5, .inl (v5))]) (st2 := [.inl (31), .inl (v5)]) rfl ?_
    by_cases c1 : 31 ≤ v5
    · rw [if_pos c1] at h
      refine sd_b_ct (c := .ge) (tgt := 83) rfl (decide_eq_true c1) (by decide) ?_
      refine sd_b_wk [(1, .inl (v1)), (3, .inl (v3)), (4, .inl (v4))] (List.forall_mem_cons.mpr ⟨rfl, (List.forall_mem_cons.mpr ⟨rfl, (List.forall_mem_cons.mpr ⟨rfl, (fun _ h0 => absurd h0 List.not_mem_nil)⟩)⟩)⟩) ?_
      exact hk83 v1 v3 v4 M _ h
    · rw [if_neg c1] at h
      refine sd_b_cf (c := .ge) rfl (decide_eq_false c1) (by decide) ?_
      refine sd_b_go 3 (pc2 := 58) (lv2 := [(0, .inr (.inr (some (0)))), (1, .inl (v1)), (2, .inl (v2)), (3, .inl (v3)), (4, .inl (v4)), (5, .inl (v5))]) (st2 := [.inl (v2), .inl (v5), .inr (.inr (some (0)))]) rfl ?_
      obtain ⟨r2, e2, h⟩ := sd_bnd h
      refine sd_b_call [.inr (.inr (some (0))), .inl (v5), .inl (v2)] [] rfl rfl sd_i_X9_mostAlike rfl rfl (Nat.le_of_ble_eq_true rfl) (sd_rc_v sd_o_0) (m_X9_mostAlike (by omega) e2) ?_
      refine sd_b_go 3 (pc2 := 67) (lv2 := [(6, .inl (r2.1)), (0, .inr (.inr (some (0)))), (1, .inl (v1)), (2, .inl (v2)), (3, .inl (v3)), (4, .inl (v4)), (5, .inl (v5))]) (st2 := [.inl (v4), .inl (r2.1)]) rfl ?_
      by_cases c3 : v4 ≤ r2.1
      · rw [if_pos c3] at h
        refine sd_b_ct (c := .ge) (tgt := 77) rfl (decide_eq_true c3) (by decide) ?_
        refine sd_b_wk [(0, .inr (.inr (some (0)))), (1, .inl (v1)), (2, .inl (v2)), (3, .inl (v3)), (4, .inl (v4)), (5, .inl (v5))] (List.forall_mem_cons.mpr ⟨rfl, (List.forall_mem_cons.mpr ⟨rfl, (List.forall_mem_cons.mpr ⟨rfl, (List.forall_mem_cons.mpr ⟨rfl, (List.forall_mem_cons.mpr ⟨rfl, (List.forall_mem_cons.mpr ⟨rfl, (fun _ h0 => absurd h0 List.not_mem_nil)⟩)⟩)⟩)⟩)⟩)⟩) ?_
        exact t_X9_look_77 hd (f_X9_look_47 k83 n) k83 ih hk83 v1 v2 v3 v4 v5 r2.2 _ h
      · rw [if_neg c3] at h
        refine sd_b_cf (c := .ge) rfl (decide_eq_false c3) (by decide) ?_
        refine sd_b_go 4 (pc2 := 77) (lv2 := [(3, .inl (v5)), (4, .inl (r2.1)), (6, .inl (r2.1)), (0, .inr (.inr (some (0)))), (1, .inl (v1)), (2, .inl (v2)), (5, .inl (v5))]) (st2 := []) rfl ?_
        refine sd_b_wk [(0, .inr (.inr (some (0)))), (1, .inl (v1)), (2, .inl (v2)), (3, .inl (v5)), (4, .inl (r2.1)), (5, .inl (v5))] (List.forall_mem_cons.mpr ⟨rfl, (List.forall_mem_cons.mpr ⟨rfl, (List.forall_mem_cons.mpr ⟨rfl, (List.forall_mem_cons.mpr ⟨rfl, (List.forall_mem_cons.mpr ⟨rfl, (List.forall_mem_cons.mpr ⟨rfl, (fun _ h0 => absurd h0 List.not_mem_nil)⟩)⟩)⟩)⟩)⟩)⟩) ?_
        exact t_X9_look_77 hd (f_X9_look_47 k83 n) k83 ih hk83 v1 v2 v5 r2.1 v5 r2.2 _ h
def f_X9_look_83 (v1 : Int) (v3 : Int) (v4 : Int) (M : sd_M) : Option (Int × sd_M) := if v1 = 0 then (some (v3, M)) else (some (v4, M))
set_option maxRecDepth 4000 in
theorem t_X9_look_83 {X : Nat → List sd_V → List sd_E → sd_A → Prop} {d : Nat} (hd : 7 ≤ d) (v1 : Int) (v3 : Int) (v4 : Int) (M : sd_M) (Rr : Int × sd_M) (h : f_X9_look_83 v1 v3 v4 M = some Rr) : sd_B X d sd_q_X9_look 83 [(1, .inl (v1)), (3, .inl (v3)), (4, .inl (v4))] [] M (some (.inl Rr.1), sd_rp Rr.2, 0, 0) := by
  unfold f_X9_look_83 at h
  refine sd_b_go 1 (pc2 := 84) (lv2 := [(1, .inl (v1)), (3, .inl (v3)), (4, .inl (v4))]) (st2 := [.inl (v1)]) rfl ?_
  by_cases c1 : v1 = 0
  · rw [if_pos c1] at h
    refine sd_b_zf (c := .ne) rfl (decide_eq_false (not_not_intro c1)) (by decide) ?_
    refine sd_b_go 2 (pc2 := 93) (lv2 := [(1, .inl (v1)), (3, .inl (v3)), (4, .inl (v4))]) (st2 := [.inl (v3)]) rfl ?_
    cases h
    exact sd_b_rt rfl rfl rfl
  · rw [if_neg c1] at h
    refine sd_b_zt (c := .ne) (tgt := 91) rfl (decide_eq_true c1) (by decide) ?_
    refine sd_b_go 1 (pc2 := 93) (lv2 := [(1, .inl (v1)), (3, .inl (v3)), (4, .inl (v4))]) (st2 := [.inl (v4)]) rfl ?_
    cases h
    exact sd_b_rt rfl rfl rfl
def f_X9_look (p1 : Int) (M : sd_M) : Option (Int × sd_M) := if (M 59 0) = 0 then (some ((-1), M)) else (if p1 < 0 then (some ((-1), M)) else (if p1 ≤ 1 then ((f_X9_layCourses M).bind fun r4 => if 1 ≤ r4.1 then (f_X9_look_47 (f_X9_look_83) 4000 p1 r4.1 0 (sd_w (r4.1 + 1)) 0 r4.2) else (some ((-2), r4.2))) else (some ((-1), M))))
set_option maxRecDepth 4000 in
theorem t_X9_look {X : Nat → List sd_V → List sd_E → sd_A → Prop} {d : Nat} (hd : 7 ≤ d) (p1 : Int) (M : sd_M) (Rr : Int × sd_M) (h : f_X9_look p1 M = some Rr) : sd_B X d sd_q_X9_look 0 [(0, .inr (.inr (some (0)))), (1, .inl (p1))] [] M (some (.inl Rr.1), sd_rp Rr.2, 0, 0) := by
  unfold f_X9_look at h
  refine sd_b_go 1 (pc2 := 1) (lv2 := [(0, .inr (.inr (some (0)))), (1, .inl (p1))]) (st2 := [.inr (.inr (some (0)))]) rfl ?_
  refine sd_b_gr (k := 5) sd_o_0 rfl rfl rfl ?_
  refine sd_b_gr (k := 0) sd_o_58 rfl rfl rfl ?_
  refine sd_b_gi (k := 0) sd_o_59 rfl rfl rfl ?_
  by_cases c1 : (M 59 0) = 0
  · rw [if_pos c1] at h
    refine sd_b_zt (c := .eq) (tgt := 22) rfl (decide_eq_true c1) (by decide) ?_
    refine sd_b_go 1 (pc2 := 23) (lv2 := [(0, .inr (.inr (some (0)))), (1, .inl (p1))]) (st2 := [.inl ((-1))]) rfl ?_
    cases h
    exact sd_b_rt rfl rfl rfl
  · rw [if_neg c1] at h
    refine sd_b_zf (c := .eq) rfl (decide_eq_false c1) (by decide) ?_
    refine sd_b_go 1 (pc2 := 14) (lv2 := [(0, .inr (.inr (some (0)))), (1, .inl (p1))]) (st2 := [.inl (p1)]) rfl ?_
    by_cases c2 : p1 < 0
    · rw [if_pos c2] at h
      refine sd_b_zt (c := .lt) (tgt := 22) rfl (decide_eq_true c2) (by decide) ?_
      refine sd_b_go 1 (pc2 := 23) (lv2 := [(0, .inr (.inr (some (0)))), (1, .inl (p1))]) (st2 := [.inl ((-1))]) rfl ?_
      cases h
      exact sd_b_rt rfl rfl rfl
    · rw [if_neg c2] at h
      refine sd_b_zf (c := .lt) rfl (decide_eq_false c2) (by decide) ?_
      refine sd_b_go 2 (pc2 := 19) (lv2 := [(0, .inr (.inr (some (0)))), (1, .inl (p1))]) (st2 := [.inl (1), .inl (p1)]) rfl ?_
      by_cases c3 : p1 ≤ 1
      · rw [if_pos c3] at h
        refine sd_b_ct (c := .le) (tgt := 24) rfl (decide_eq_true c3) (by decide) ?_
        refine sd_b_go 1 (pc2 := 25) (lv2 := [(0, .inr (.inr (some (0)))), (1, .inl (p1))]) (st2 := [.inr (.inr (some (0)))]) rfl ?_
        obtain ⟨r4, e4, h⟩ := sd_bnd h
        refine sd_b_call [.inr (.inr (some (0)))] [] rfl rfl sd_i_X9_layCourses rfl rfl (Nat.le_of_ble_eq_true rfl) (sd_rc_v sd_o_0) (m_X9_layCourses (by omega) e4) ?_
        refine sd_b_go 3 (pc2 := 31) (lv2 := [(2, .inl (r4.1)), (0, .inr (.inr (some (0)))), (1, .inl (p1))]) (st2 := [.inl (1), .inl (r4.1)]) rfl ?_
        by_cases c5 : 1 ≤ r4.1
        · rw [if_pos c5] at h
          refine sd_b_ct (c := .ge) (tgt := 37) rfl (decide_eq_true c5) (by decide) ?_
          refine sd_b_go 8 (pc2 := 47) (lv2 := [(5, .inl (0)), (4, .inl (sd_w (r4.1 + 1))), (3, .inl (0)), (2, .inl (r4.1)), (0, .inr (.inr (some (0)))), (1, .inl (p1))]) (st2 := []) rfl ?_
          refine sd_b_wk [(0, .inr (.inr (some (0)))), (1, .inl (p1)), (2, .inl (r4.1)), (3, .inl (0)), (4, .inl (sd_w (r4.1 + 1))), (5, .inl (0))] (List.forall_mem_cons.mpr ⟨rfl, (List.forall_mem_cons.mpr ⟨rfl, (List.forall_mem_cons.mpr ⟨rfl, (List.forall_mem_cons.mpr ⟨rfl, (List.forall_mem_cons.mpr ⟨rfl, (List.forall_mem_cons.mpr ⟨rfl, (fun _ h0 => absurd h0 List.not_mem_nil)⟩)⟩)⟩)⟩)⟩)⟩) ?_
          exact t_X9_look_47 hd (f_X9_look_83) (t_X9_look_83 hd) 4000 p1 r4.1 0 (sd_w (r4.1 + 1)) 0 r4.2 _ h
        · rw [if_neg c5] at h
          refine sd_b_cf (c := .ge) rfl (decide_eq_false c5) (by decide) ?_
          refine sd_b_go 1 (pc2 := 36) (lv2 := [(2, .inl (r4.1)), (0, .inr (.inr (some (0)))), (1, .inl (p1))]) (st2 := [.inl ((-2))]) rfl ?_
          cases h
          exact sd_b_rt rfl rfl rfl
      · rw [if_neg c3] at h
        refine sd_b_cf (c := .le) rfl (decide_eq_false c3) (by decide) ?_
        refine sd_b_go 1 (pc2 := 23) (lv2 := [(0, .inr (.inr (some (0)))), (1, .inl (p1))]) (st2 := [.inl ((-1))]) rfl ?_
        cases h
        exact sd_b_rt rfl rfl rfl
theorem m_X9_look {X : Nat → List sd_V → List sd_E → sd_A → Prop} {d : Nat} (hd : 8 ≤ d) {p1 : Int} {M : sd_M} {Rr : Int × sd_M} (h : f_X9_look p1 M = some Rr) : sd_Cal X d 113 [.inr (.inr (some (0))), .inl (p1)] (sd_rp M) (some (.inl Rr.1), sd_rp Rr.2, 0, 0) := by
  obtain ⟨d, rfl⟩ : ∃ d2, d = d2 + 1 := ⟨d - 1, by omega⟩
  exact sd_cal_of sd_i_X9_look (Nat.le_of_ble_eq_true rfl) (t_X9_look (by omega) p1 M Rr h)
