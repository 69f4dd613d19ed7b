-- X0_copyFrom
def sd_q_X0_copyFrom : sd_MI := (yX0_copyFrom, cX0_copyFrom, 2, none, 0, 1, sd_t_X0_copyFrom)
set_option maxRecDepth 4000 in
theorem sd_i_X0_copyFrom : sd_mL[1]? = some sd_q_X0_copyFrom := rfl
def f_X0_copyFrom (this : Nat) (other : Nat) (M : sd_M) : Option (Int × sd_M) := some (0, sd_cp (sd_cp (sd_cp (sd_cp (sd_cp (sd_cp (sd_cp (sd_s (sd_s (sd_s (sd_s (sd_s M this 0 (M other 0)) this 1 (sd_s M this 0 (M other 0) other 1)) this 2 (sd_s (sd_s M this 0 (M other 0)) this 1 (sd_s M this 0 (M other 0) other 1) other 2)) this 3 (sd_s (sd_s (sd_s M this 0 (M other 0)) this 1 (sd_s M this 0 (M other 0) other 1)) this 2 (sd_s (sd_s M this 0 (M other 0)) this 1 (sd_s M this 0 (M other 0) other 1) other 2) other 3)) this 4 (sd_s (sd_s (sd_s (sd_s M this 0 (M other 0)) this 1 (sd_s M this 0 (M other 0) other 1)) this 2 (sd_s (sd_s M this 0 (M other 0)) this 1 (sd_s M this 0 (M other 0) other 1) other 2)) this 3 (sd_s (sd_s (sd_s M this 0 (M other 0)) this 1 (sd_s M this 0 (M other 0) other 1)) this 2 (sd_s (sd_s M this 0 (M other 0)) this 1 (sd_s M this 0 (M other 0) other 1) other 2) other 3) other 4)) (other + 1) (this + 1) 9) (other + 2) (this + 2) 9) (other + 3) (this + 3) 9) (other + 4) (this + 4) 9) (other + 5) (this + 5) 9) (other + 6) (this + 6) 9) (other + 7) (this + 7) 9)
set_option maxRecDepth 4000 in
theorem t_X0_copyFrom {X : Nat → List sd_V → List sd_E → sd_A → Prop} {d : Nat} (hd : 0 ≤ d) (this : Nat) (other : Nat) (h_this : sd_o this 0) (h_other : sd_o other 0) (M : sd_M) (Rr : Int × sd_M) (h : f_X0_copyFrom this other M = some Rr) : sd_B X d sd_q_X0_copyFrom 0 [(0, .inr (.inr (some (this)))), (1, .inr (.inr (some (other))))] [] M (none, sd_rp Rr.2, 0, 0) := by
  unfold f_X0_copyFrom at h
  refine sd_b_go 2 (pc2 := 2) (lv2 := [(0, .inr (.inr (some (this)))), (1, .inr (.inr (some (other))))]) (st2 := [.inr (.inr (some (other))), .inr (.inr (some (this)))]) rfl ?_
  refine sd_b_gi (k := 0) h_other rfl rfl rfl ?_
  refine sd_b_pi (k := 0) h_this rfl rfl rfl rfl rfl ?_
  refine sd_b_go 2 (pc2 := 10) (lv2 := [(0, .inr (.inr (some (this)))), (1, .inr (.inr (some (other))))]) (st2 := [.inr (.inr (some (other))), .inr (.inr (some (this)))]) rfl ?_
  refine sd_b_gi (k := 1) h_other rfl rfl rfl ?_
  refine sd_b_pi (k := 1) h_this rfl rfl rfl rfl rfl ?_
  refine sd_b_go 2 (pc2 := 18) (lv2 := [(0, .inr (.inr (some (this)))), (1, .inr (.inr (some (other))))]) (st2 := [.inr (.inr (some (other))), .inr (.inr (some (this)))]) rfl ?_
  refine sd_b_gi (k := 2) h_other rfl rfl rfl ?_
  refine sd_b_pi (k := 2) h_this rfl rfl rfl rfl rfl ?_
  refine sd_b_go 2 (pc2 := 26) (lv2 := [(0, .inr (.inr (some (this)))), (1, .inr (.inr (some (other))))]) (st2 := [.inr (.inr (some (other))), .inr (.inr (some (this)))]) rfl ?_
  refine sd_b_gi (k := 3) h_other rfl rfl rfl ?_
  refine sd_b_pi (k := 3) h_this rfl rfl rfl rfl rfl ?_
  refine sd_b_go 2 (pc2 := 34) (lv2 := [(0, .inr (.inr (some (this)))), (1, .inr (.inr (some (other))))]) (st2 := [.inr (.inr (some (other))), .inr (.inr (some (this)))]) rfl ?_
  refine sd_b_gi (k := 4) h_other rfl rfl rfl ?_
  refine sd_b_pi (k := 4) h_this rfl rfl rfl rfl rfl ?_
  refine sd_b_go 1 (pc2 := 41) (lv2 := [(0, .inr (.inr (some (this)))), (1, .inr (.inr (some (other))))]) (st2 := [.inr (.inr (some (other)))]) rfl ?_
  refine sd_b_gr (k := 5) h_other rfl rfl rfl ?_
  refine sd_b_go 2 (pc2 := 46) (lv2 := [(0, .inr (.inr (some (this)))), (1, .inr (.inr (some (other))))]) (st2 := [.inr (.inr (some (this))), .inl (0), .inr (.inr (some (other + 1)))]) rfl ?_
  refine sd_b_gr (k := 5) h_this rfl rfl rfl ?_
  refine sd_b_go 2 (pc2 := 52) (lv2 := [(0, .inr (.inr (some (this)))), (1, .inr (.inr (some (other))))]) (st2 := [.inl (9), .inl (0), .inr (.inr (some (this + 1))), .inl (0), .inr (.inr (some (other + 1)))]) rfl ?_
  refine sd_b_cp (n := 9) (sd_oa h_other (by decide) (off := 1) (List.mem_of_getElem? (i := 0) rfl)) (sd_oa h_this (by decide) (off := 1) (List.mem_of_getElem? (i := 0) rfl)) (by decide) (by decide) (Nat.le_of_ble_eq_true rfl) rfl rfl ?_
  refine sd_b_go 1 (pc2 := 56) (lv2 := [(0, .inr (.inr (some (this)))), (1, .inr (.inr (some (other))))]) (st2 := [.inr (.inr (some (other)))]) rfl ?_
  refine sd_b_gr (k := 6) h_other rfl rfl rfl ?_
  refine sd_b_go 2 (pc2 := 61) (lv2 := [(0, .inr (.inr (some (this)))), (1, .inr (.inr (some (other))))]) (st2 := [.inr (.inr (some (this))), .inl (0), .inr (.inr (some (other + 2)))]) rfl ?_
  refine sd_b_gr (k := 6) h_this rfl rfl rfl ?_
  refine sd_b_go 2 (pc2 := 67) (lv2 := [(0, .inr (.inr (some (this)))), (1, .inr (.inr (some (other))))]) (st2 := [.inl (9), .inl (0), .inr (.inr (some (this + 2))), .inl (0), .inr (.inr (some (other + 2)))]) rfl ?_
  refine sd_b_cp (n := 9) (sd_oa h_other (by decide) (off := 2) (List.mem_of_getElem? (i := 1) rfl)) (sd_oa h_this (by decide) (off := 2) (List.mem_of_getElem? (i := 1) rfl)) (by decide) (by decide) (Nat.le_of_ble_eq_true rfl) rfl rfl ?_
  refine sd_b_go 1 (pc2 := 71) (lv2 := [(0, .inr (.inr (some (this)))), (1, .inr (.inr (some (other))))]) (st2 := [.inr (.inr (some (other)))]) rfl ?_
  refine sd_b_gr (k := 7) h_other rfl rfl rfl ?_
  refine sd_b_go 2 (pc2 := 76) (lv2 := [(0, .inr (.inr (some (this)))), (1, .inr (.inr (some (other))))]) (st2 := [.inr (.inr (some (this))), .inl (0), .inr (.inr (some (other + 3)))]) rfl ?_
  refine sd_b_gr (k := 7) h_this rfl rfl rfl ?_
  refine sd_b_go 2 (pc2 := 82) (lv2 := [(0, .inr (.inr (some (this)))), (1, .inr (.inr (some (other))))]) (st2 := [.inl (9), .inl (0), .inr (.inr (some (this + 3))), .inl (0), .inr (.inr (some (other + 3)))]) rfl ?_
  refine sd_b_cp (n := 9) (sd_oa h_other (by decide) (off := 3) (List.mem_of_getElem? (i := 2) rfl)) (sd_oa h_this (by decide) (off := 3) (List.mem_of_getElem? (i := 2) rfl)) (by decide) (by decide) (Nat.le_of_ble_eq_true rfl) rfl rfl ?_
  refine sd_b_go 1 (pc2 := 86) (lv2 := [(0, .inr (.inr (some (this)))), (1, .inr (.inr (some (other))))]) (st2 := [.inr (.inr (some (other)))]) rfl ?_
  refine sd_b_gr (k := 8) h_other rfl rfl rfl ?_
  refine sd_b_go 2 (pc2 := 91) (lv2 := [(0, .inr (.inr (some (this)))), (1, .inr (.inr (some (other))))]) (st2 := [.inr (.inr (some (this))), .inl (0), .inr (.inr (some (other + 4)))]) rfl ?_
  refine sd_b_gr (k := 8) h_this rfl rfl rfl ?_
  refine sd_b_go 2 (pc2 := 97) (lv2 := [(0, .inr (.inr (some (this)))), (1, .inr (.inr (some (other))))]) (st2 := [.inl (9), .inl (0), .inr (.inr (some (this + 4))), .inl (0), .inr (.inr (some (other + 4)))]) rfl ?_
  refine sd_b_cp (n := 9) (sd_oa h_other (by decide) (off := 4) (List.mem_of_getElem? (i := 3) rfl)) (sd_oa h_this (by decide) (off := 4) (List.mem_of_getElem? (i := 3) rfl)) (by decide) (by decide) (Nat.le_of_ble_eq_true rfl) rfl rfl ?_
  refine sd_b_go 1 (pc2 := 101) (lv2 := [(0, .inr (.inr (some (this)))), (1, .inr (.inr (some (other))))]) (st2 := [.inr (.inr (some (other)))]) rfl ?_
  refine sd_b_gr (k := 9) h_other rfl rfl rfl ?_
  refine sd_b_go 2 (pc2 := 106) (lv2 := [(0, .inr (.inr (some (this)))), (1, .inr (.inr (some (other))))]) (st2 := [.inr (.inr (some (this))), .inl (0), .inr (.inr (some (other + 5)))]) rfl ?_
  refine sd_b_gr (k := 9) h_this rfl rfl rfl ?_
  refine sd_b_go 2 (pc2 := 112) (lv2 := [(0, .inr (.inr (some (this)))), (1, .inr (.inr (some (other))))]) (st2 := [.inl (9), .inl (0), .inr (.inr (some (this + 5))), .inl (0), .inr (.inr (some (other + 5)))]) rfl ?_
  refine sd_b_cp (n := 9) (sd_oa h_other (by decide) (off := 5) (List.mem_of_getElem? (i := 4) rfl)) (sd_oa h_this (by decide) (off := 5) (List.mem_of_getElem? (i := 4) rfl)) (by decide) (by decide) (Nat.le_of_ble_eq_true rfl) rfl rfl ?_
  refine sd_b_go 1 (pc2 := 116) (lv2 := [(0, .inr (.inr (some (this)))), (1, .inr (.inr (some (other))))]) (st2 := [.inr (.inr (some (other)))]) rfl ?_
  refine sd_b_gr (k := 10) h_other rfl rfl rfl ?_
  refine sd_b_go 2 (pc2 := 121) (lv2 := [(0, .inr (.inr (some (this)))), (1, .inr (.inr (some (other))))]) (st2 := [.inr (.inr (some (this))), .inl (0), .inr (.inr (some (other + 6)))]) rfl ?_
  refine sd_b_gr (k := 10) h_this rfl rfl rfl ?_
  refine sd_b_go 2 (pc2 := 127) (lv2 := [(0, .inr (.inr (some (this)))), (1, .inr (.inr (some (other))))]) (st2 := [.inl (9), .inl (0), .inr (.inr (some (this + 6))), .inl (0), .inr (.inr (some (other + 6)))]) rfl ?_
  refine sd_b_cp (n := 9) (sd_oa h_other (by decide) (off := 6) (List.mem_of_getElem? (i := 5) rfl)) (sd_oa h_this (by decide) (off := 6) (List.mem_of_getElem? (i := 5) rfl)) (by decide) (by decide) (Nat.le_of_ble_eq_true rfl) rfl rfl ?_
  refine sd_b_go 1 (pc2 := 131) (lv2 := [(0, .inr (.inr (some (this)))), (1, .inr (.inr (some (other))))]) (st2 := [.inr (.inr (some (other)))]) rfl ?_
  refine sd_b_gr (k := 11) h_other rfl rfl rfl ?_
  refine sd_b_go 2 (pc2 := 136) (lv2 := [(0, .inr (.inr (some (this)))), (1, .inr (.inr (some (other))))]) (st2 := [.inr (.inr (some (this))), .inl (0), .inr (.inr (some (other + 7)))]) rfl ?_
  refine sd_b_gr (k := 11) h_this rfl rfl rfl ?_
  refine sd_b_go 2 (pc2 := 142) (lv2 := [(0, .inr (.inr (some (this)))), (1, .inr (.inr (some (other))))]) (st2 := [.inl (9), .inl (0), .inr (.inr (some (this + 7))), .inl (0), .inr (.inr (some (other + 7)))]) rfl ?_
  refine sd_b_cp (n := 9) (sd_oa h_other (by decide) (off := 7) (List.mem_of_getElem? (i := 6) rfl)) (sd_oa h_this (by decide) (off := 7) (List.mem_of_getElem? (i := 6) rfl)) (by decide) (by decide) (Nat.le_of_ble_eq_true rfl) rfl rfl ?_
  cases h
  exact sd_b_rt rfl rfl rfl
theorem m_X0_copyFrom {X : Nat → List sd_V → List sd_E → sd_A → Prop} {d : Nat} (hd : 1 ≤ d) {this : Nat} {other : Nat} (h_this : sd_o this 0) (h_other : sd_o other 0) {M : sd_M} {Rr : Int × sd_M} (h : f_X0_copyFrom this other M = some Rr) : sd_Cal X d 1 [.inr (.inr (some (this))), .inr (.inr (some (other)))] (sd_rp M) (none, sd_rp Rr.2, 0, 0) := by
  obtain ⟨d, rfl⟩ : ∃ d2, d = d2 + 1 := ⟨d - 1, by omega⟩
  exact sd_cal_of sd_i_X0_copyFrom (Nat.le_of_ble_eq_true rfl) (t_X0_copyFrom (by omega) this other h_this h_other M Rr h)
-- X0_begin
def sd_q_X0_begin : sd_MI := (yX0_begin, cX0_begin, 3, none, 0, 1, sd_t_X0_begin)
set_option maxRecDepth 4000 in
theorem sd_i_X0_begin : sd_mL[2]? = some sd_q_X0_begin := rfl
def f_X0_begin_60 (this : Nat) : Nat → Int → sd_M → Option (Int × sd_M)
  | 0, _, _ => none
  | n + 1, v2, M => if 9 ≤ v2 then (some (0, M)) else (if 0 ≤ v2 ∧ v2 < 9 then (if 0 ≤ v2 ∧ v2 < 9 then (if 0 ≤ v2 ∧ v2 < 9 then (f_X0_begin_60 this n (sd_w (v2 + 1)) (sd_s (sd_s (sd_s M (this + 3) v2.toNat 0) (this + 4) v2.toNat 0) (this + 5) v2.toNat 0)) else none) else none) else none)
set_option maxRecDepth 4000 in
theorem t_X0_begin_60 {X : Nat → List sd_V → List sd_E → sd_A → Prop} {d : Nat} (hd : 0 ≤ d) (this : Nat) (h_this : sd_o this 0) : ∀ (n : Nat) (v2 : Int) (M : sd_M) (Rr : Int × sd_M), f_X0_begin_60 this n v2 M = some Rr → sd_B X d sd_q_X0_begin 60 [(0, .inr (.inr (some (this)))), (2, .inl (v2))] [] M (none, sd_rp Rr.2, 0, 0) := by
  intro n
  induction n with
  | zero => intro v2 M Rr h; cases h
  | succ n ih =>
    intro v2 M Rr h
    rw [f_X0_begin_60] at h
    refine sd_b_go 2 (pc2 := 63) (lv2 := [(0, .inr (.inr (some (this)))), (2, .inl (v2))]) (st2 := [.inl (9), .inl (v2)]) rfl ?_
    by_cases c1 : 9 ≤ v2
    · rw [if_pos c1] at h
      refine sd_b_ct (c := .ge) (tgt := 93) rfl (decide_eq_true c1) (by decide) ?_
      cases h
      exact sd_b_rt rfl rfl rfl
    · rw [if_neg c1] at h
      refine sd_b_cf (c := .ge) rfl (decide_eq_false c1) (by decide) ?_
      refine sd_b_go 1 (pc2 := 67) (lv2 := [(0, .inr (.inr (some (this)))), (2, .inl (v2))]) (st2 := [.inr (.inr (some (this)))]) rfl ?_
      refine sd_b_gr (k := 7) h_this rfl rfl rfl ?_
      refine sd_b_go 2 (pc2 := 72) (lv2 := [(0, .inr (.inr (some (this)))), (2, .inl (v2))]) (st2 := [.inl (0), .inl (v2), .inr (.inr (some (this + 3)))]) rfl ?_
      obtain ⟨g2, h⟩ := sd_if h
      refine sd_b_si (sd_oa h_this (by decide) (off := 3) (List.mem_of_getElem? (i := 2) rfl)) g2 rfl ?_
      refine sd_b_go 1 (pc2 := 74) (lv2 := [(0, .inr (.inr (some (this)))), (2, .inl (v2))]) (st2 := [.inr (.inr (some (this)))]) rfl ?_
      refine sd_b_gr (k := 8) h_this rfl rfl rfl ?_
      refine sd_b_go 2 (pc2 := 79) (lv2 := [(0, .inr (.inr (some (this)))), (2, .inl (v2))]) (st2 := [.inl (0), .inl (v2), .inr (.inr (some (this + 4)))]) rfl ?_
      obtain ⟨g3, h⟩ := sd_if h
      refine sd_b_si (sd_oa h_this (by decide) (off := 4) (List.mem_of_getElem? (i := 3) rfl)) g3 rfl ?_
      refine sd_b_go 1 (pc2 := 81) (lv2 := [(0, .inr (.inr (some (this)))), (2, .inl (v2))]) (st2 := [.inr (.inr (some (this)))]) rfl ?_
      refine sd_b_gr (k := 9) h_this rfl rfl rfl ?_
      refine sd_b_go 2 (pc2 := 86) (lv2 := [(0, .inr (.inr (some (this)))), (2, .inl (v2))]) (st2 := [.inl (0), .inl (v2), .inr (.inr (some (this + 5)))]) rfl ?_
      obtain ⟨g4, h⟩ := sd_if h
      refine sd_b_si (sd_oa h_this (by decide) (off := 5) (List.mem_of_getElem? (i := 4) rfl)) g4 rfl ?_
      refine sd_b_go 2 (pc2 := 60) (lv2 := [(2, .inl (sd_w (v2 + 1))), (0, .inr (.inr (some (this))))]) (st2 := []) rfl ?_
      refine sd_b_wk [(0, .inr (.inr (some (this)))), (2, .inl (sd_w (v2 + 1)))] (List.forall_mem_cons.mpr ⟨rfl, (List.forall_mem_cons.mpr ⟨rfl, (fun _ h0 => absurd h0 List.not_mem_nil)⟩)⟩) ?_
      exact ih (sd_w (v2 + 1)) (sd_s (sd_s (sd_s M (this + 3) v2.toNat 0) (this + 4) v2.toNat 0) (this + 5) v2.toNat 0) _ h
def f_X0_begin (this : Nat) (M : sd_M) : Option (Int × sd_M) := f_X0_begin_60 this 4000 0 (sd_cp (sd_cp (sd_s (sd_s (sd_s (sd_s (sd_s M this 0 (M 59 1)) this 1 0) this 2 0) this 3 0) this 4 0) 60 (this + 1) 9) 61 (this + 2) 9)
set_option maxRecDepth 4000 in
theorem t_X0_begin {X : Nat → List sd_V → List sd_E → sd_A → Prop} {d : Nat} (hd : 0 ≤ d) (this : Nat) (h_this : sd_o this 0) (M : sd_M) (Rr : Int × sd_M) (h : f_X0_begin this M = some Rr) : sd_B X d sd_q_X0_begin 0 [(0, .inr (.inr (some (this)))), (1, .inr (.inr (some (59))))] [] M (none, sd_rp Rr.2, 0, 0) := by
  unfold f_X0_begin at h
  refine sd_b_go 2 (pc2 := 2) (lv2 := [(0, .inr (.inr (some (this)))), (1, .inr (.inr (some (59))))]) (st2 := [.inr (.inr (some (59))), .inr (.inr (some (this)))]) rfl ?_
  refine sd_b_gi (k := 1) sd_o_59 rfl rfl rfl ?_
  refine sd_b_pi (k := 0) h_this rfl rfl rfl rfl rfl ?_
  refine sd_b_go 2 (pc2 := 10) (lv2 := [(0, .inr (.inr (some (this)))), (1, .inr (.inr (some (59))))]) (st2 := [.inl (0), .inr (.inr (some (this)))]) rfl ?_
  refine sd_b_pi (k := 1) h_this rfl rfl rfl rfl rfl ?_
  refine sd_b_go 2 (pc2 := 15) (lv2 := [(0, .inr (.inr (some (this)))), (1, .inr (.inr (some (59))))]) (st2 := [.inl (0), .inr (.inr (some (this)))]) rfl ?_
  refine sd_b_pi (k := 2) h_this rfl rfl rfl rfl rfl ?_
  refine sd_b_go 2 (pc2 := 20) (lv2 := [(0, .inr (.inr (some (this)))), (1, .inr (.inr (some (59))))]) (st2 := [.inl (0), .inr (.inr (some (this)))]) rfl ?_
  refine sd_b_pi (k := 3) h_this rfl rfl rfl rfl rfl ?_
  refine sd_b_go 2 (pc2 := 25) (lv2 := [(0, .inr (.inr (some (this)))), (1, .inr (.inr (some (59))))]) (st2 := [.inl (0), .inr (.inr (some (this)))]) rfl ?_
  refine sd_b_pi (k := 4) h_this rfl rfl rfl rfl rfl ?_
  refine sd_b_go 1 (pc2 := 29) (lv2 := [(0, .inr (.inr (some (this)))), (1, .inr (.inr (some (59))))]) (st2 := [.inr (.inr (some (59)))]) rfl ?_
  refine sd_b_gr (k := 3) sd_o_59 rfl rfl rfl ?_
  refine sd_b_go 2 (pc2 := 34) (lv2 := [(0, .inr (.inr (some (this)))), (1, .inr (.inr (some (59))))]) (st2 := [.inr (.inr (some (this))), .inl (0), .inr (.inr (some (60)))]) rfl ?_
  refine sd_b_gr (k := 5) h_this rfl rfl rfl ?_
  refine sd_b_go 2 (pc2 := 40) (lv2 := [(0, .inr (.inr (some (this)))), (1, .inr (.inr (some (59))))]) (st2 := [.inl (9), .inl (0), .inr (.inr (some (this + 1))), .inl (0), .inr (.inr (some (60)))]) rfl ?_
  refine sd_b_cp (n := 9) (sd_oa sd_o_59 (by decide) (off := 1) (List.mem_of_getElem? (i := 0) rfl)) (sd_oa h_this (by decide) (off := 1) (List.mem_of_getElem? (i := 0) rfl)) (by decide) (by decide) (Nat.le_of_ble_eq_true rfl) rfl rfl ?_
  refine sd_b_go 1 (pc2 := 44) (lv2 := [(0, .inr (.inr (some (this)))), (1, .inr (.inr (some (59))))]) (st2 := [.inr (.inr (some (59)))]) rfl ?_
  refine sd_b_gr (k := 4) sd_o_59 rfl rfl rfl ?_
  refine sd_b_go 2 (pc2 := 49) (lv2 := [(0, .inr (.inr (some (this)))), (1, .inr (.inr (some (59))))]) (st2 := [.inr (.inr (some (this))), .inl (0), .inr (.inr (some (61)))]) rfl ?_
  refine sd_b_gr (k := 6) h_this rfl rfl rfl ?_
  refine sd_b_go 2 (pc2 := 55) (lv2 := [(0, .inr (.inr (some (this)))), (1, .inr (.inr (some (59))))]) (st2 := [.inl (9), .inl (0), .inr (.inr (some (this + 2))), .inl (0), .inr (.inr (some (61)))]) rfl ?_
  refine sd_b_cp (n := 9) (sd_oa sd_o_59 (by decide) (off := 2) (List.mem_of_getElem? (i := 1) rfl)) (sd_oa h_this (by decide) (off := 2) (List.mem_of_getElem? (i := 1) rfl)) (by decide) (by decide) (Nat.le_of_ble_eq_true rfl) rfl rfl ?_
  refine sd_b_go 2 (pc2 := 60) (lv2 := [(2, .inl (0)), (0, .inr (.inr (some (this)))), (1, .inr (.inr (some (59))))]) (st2 := []) rfl ?_
  refine sd_b_wk [(0, .inr (.inr (some (this)))), (2, .inl (0))] (List.forall_mem_cons.mpr ⟨rfl, (List.forall_mem_cons.mpr ⟨rfl, (fun _ h0 => absurd h0 List.not_mem_nil)⟩)⟩) ?_
  exact t_X0_begin_60 hd this h_this 4000 0 (sd_cp (sd_cp (sd_s (sd_s (sd_s (sd_s (sd_s M this 0 (M 59 1)) this 1 0) this 2 0) this 3 0) this 4 0) 60 (this + 1) 9) 61 (this + 2) 9) _ h
theorem m_X0_begin {X : Nat → List sd_V → List sd_E → sd_A → Prop} {d : Nat} (hd : 1 ≤ d) {this : Nat} (h_this : sd_o this 0) {M : sd_M} {Rr : Int × sd_M} (h : f_X0_begin this M = some Rr) : sd_Cal X d 2 [.inr (.inr (some (this))), .inr (.inr (some (59)))] (sd_rp M) (none, sd_rp Rr.2, 0, 0) := by
  obtain ⟨d, rfl⟩ : ∃ d2, d = d2 + 1 := ⟨d - 1, by omega⟩
  exact sd_cal_of sd_i_X0_begin (Nat.le_of_ble_eq_true rfl) (t_X0_begin (by omega) this h_this M Rr h)
-- X0_isOn
def sd_q_X0_isOn : sd_MI := (yX0_isOn, cX0_isOn, 2, (some .boolean), 0, 1, sd_t_X0_isOn)
set_option maxRecDepth 4000 in
theorem sd_i_X0_isOn : sd_mL[3]? = some sd_q_X0_isOn := rfl
def f_X0_isOn (this : Nat) (p1 : Int) (M : sd_M) : Option (Int × sd_M) := if p1 < 0 then (some (0, M)) else (if 9 ≤ p1 then (some (0, M)) else (if 0 ≤ p1 ∧ p1 < 9 then (if (M (this + 3) p1.toNat) = 1 then (some (1, M)) else (some (0, M))) else none))
set_option maxRecDepth 4000 in
theorem t_X0_isOn {X : Nat → List sd_V → List sd_E → sd_A → Prop} {d : Nat} (hd : 0 ≤ d) (this : Nat) (h_this : sd_o this 0) (p1 : Int) (M : sd_M) (Rr : Int × sd_M) (h : f_X0_isOn this p1 M = some Rr) : sd_B X d sd_q_X0_isOn 0 [(0, .inr (.inr (some (this)))), (1, .inl (p1))] [] M (some (.inl Rr.1), sd_rp Rr.2, 0, 0) := by
  unfold f_X0_isOn at h
  refine sd_b_go 1 (pc2 := 1) (lv2 := [(0, .inr (.inr (some (this)))), (1, .inl (p1))]) (st2 := [.inl (p1)]) rfl ?_
  by_cases c1 : p1 < 0
  · rw [if_pos c1] at h
    refine sd_b_zt (c := .lt) (tgt := 24) rfl (decide_eq_true c1) (by decide) ?_
    refine sd_b_go 1 (pc2 := 25) (lv2 := [(0, .inr (.inr (some (this)))), (1, .inl (p1))]) (st2 := [.inl (0)]) rfl ?_
    cases h
    exact sd_b_rt rfl rfl rfl
  · rw [if_neg c1] at h
    refine sd_b_zf (c := .lt) rfl (decide_eq_false c1) (by decide) ?_
    refine sd_b_go 2 (pc2 := 7) (lv2 := [(0, .inr (.inr (some (this)))), (1, .inl (p1))]) (st2 := [.inl (9), .inl (p1)]) rfl ?_
    by_cases c2 : 9 ≤ p1
    · rw [if_pos c2] at h
      refine sd_b_ct (c := .ge) (tgt := 24) rfl (decide_eq_true c2) (by decide) ?_
      refine sd_b_go 1 (pc2 := 25) (lv2 := [(0, .inr (.inr (some (this)))), (1, .inl (p1))]) (st2 := [.inl (0)]) rfl ?_
      cases h
      exact sd_b_rt rfl rfl rfl
    · rw [if_neg c2] at h
      refine sd_b_cf (c := .ge) rfl (decide_eq_false c2) (by decide) ?_
      refine sd_b_go 1 (pc2 := 11) (lv2 := [(0, .inr (.inr (some (this)))), (1, .inl (p1))]) (st2 := [.inr (.inr (some (this)))]) rfl ?_
      refine sd_b_gr (k := 7) h_this rfl rfl rfl ?_
      refine sd_b_go 1 (pc2 := 15) (lv2 := [(0, .inr (.inr (some (this)))), (1, .inl (p1))]) (st2 := [.inl (p1), .inr (.inr (some (this + 3)))]) rfl ?_
      obtain ⟨g3, h⟩ := sd_if h
      refine sd_b_ai (sd_oa h_this (by decide) (off := 3) (List.mem_of_getElem? (i := 2) rfl)) g3 rfl ?_
      refine sd_b_go 1 (pc2 := 17) (lv2 := [(0, .inr (.inr (some (this)))), (1, .inl (p1))]) (st2 := [.inl (1), .inl (M (this + 3) p1.toNat)]) rfl ?_
      by_cases c4 : (M (this + 3) p1.toNat) = 1
      · rw [if_pos c4] at h
        refine sd_b_cf (c := .ne) rfl (decide_eq_false (not_not_intro c4)) (by decide) ?_
        refine sd_b_go 2 (pc2 := 25) (lv2 := [(0, .inr (.inr (some (this)))), (1, .inl (p1))]) (st2 := [.inl (1)]) rfl ?_
        cases h
        exact sd_b_rt rfl rfl rfl
      · rw [if_neg c4] at h
        refine sd_b_ct (c := .ne) (tgt := 24) rfl (decide_eq_true c4) (by decide) ?_
        refine sd_b_go 1 (pc2 := 25) (lv2 := [(0, .inr (.inr (some (this)))), (1, .inl (p1))]) (st2 := [.inl (0)]) rfl ?_
        cases h
        exact sd_b_rt rfl rfl rfl
theorem m_X0_isOn {X : Nat → List sd_V → List sd_E → sd_A → Prop} {d : Nat} (hd : 1 ≤ d) {this : Nat} (h_this : sd_o this 0) {p1 : Int} {M : sd_M} {Rr : Int × sd_M} (h : f_X0_isOn this p1 M = some Rr) : sd_Cal X d 3 [.inr (.inr (some (this))), .inl (p1)] (sd_rp M) (some (.inl Rr.1), sd_rp Rr.2, 0, 0) := by
  obtain ⟨d, rfl⟩ : ∃ d2, d = d2 + 1 := ⟨d - 1, by omega⟩
  exact sd_cal_of sd_i_X0_isOn (Nat.le_of_ble_eq_true rfl) (t_X0_isOn (by omega) this h_this p1 M Rr h)
-- X0_bitsWhere
def sd_q_X0_bitsWhere : sd_MI := (yX0_bitsWhere, cX0_bitsWhere, 5, (some .int), 0, 2, sd_t_X0_bitsWhere)
set_option maxRecDepth 4000 in
theorem sd_i_X0_bitsWhere : sd_mL[4]? = some sd_q_X0_bitsWhere := rfl
def f_X0_bitsWhere_36 (k5 : Int → Int → Int → Int → sd_M → Option (Int × sd_M)) (this : Nat) (v1 : Int) (v2 : Int) (v3 : Int) (v4 : Int) (M : sd_M) : Option (Int × sd_M) := k5 v1 v2 v3 (sd_w (v4 + 1)) M
set_option maxRecDepth 4000 in
theorem t_X0_bitsWhere_36 {X : Nat → List sd_V → List sd_E → sd_A → Prop} {d : Nat} (hd : 0 ≤ d) (this : Nat) (h_this : sd_o this 0) (k5 : Int → Int → Int → Int → sd_M → Option (Int × sd_M)) (hk5 : ∀ (v1 : Int) (v2 : Int) (v3 : Int) (v4 : Int) (M : sd_M) (Rr : Int × sd_M), k5 v1 v2 v3 v4 M = some Rr → sd_B X d sd_q_X0_bitsWhere 5 [(0, .inr (.inr (some (this)))), (1, .inl (v1)), (2, .inl (v2)), (3, .inl (v3)), (4, .inl (v4))] [] M (some (.inl Rr.1), sd_rp Rr.2, 0, 0)) (v1 : Int) (v2 : Int) (v3 : Int) (v4 : Int) (M : sd_M) (Rr : Int × sd_M) (h : f_X0_bitsWhere_36 k5 this v1 v2 v3 v4 M = some Rr) : sd_B X d sd_q_X0_bitsWhere 36 [(0, .inr (.inr (some (this)))), (1, .inl (v1)), (2, .inl (v2)), (3, .inl (v3)), (4, .inl (v4))] [] M (some (.inl Rr.1), sd_rp Rr.2, 0, 0) := by
  unfold f_X0_bitsWhere_36 at h
  refine sd_b_go 2 (pc2 := 5) (lv2 := [(4, .inl (sd_w (v4 + 1))), (0, .inr (.inr (some (this)))), (1, .inl (v1)), (2, .inl (v2)), (3, .inl (v3))]) (st2 := []) rfl ?_
  refine sd_b_wk [(0, .inr (.inr (some (this)))), (1, .inl (v1)), (2, .inl (v2)), (3, .inl (v3)), (4, .inl (sd_w (v4 + 1)))] (List.forall_mem_cons.mpr ⟨rfl, (List.forall_mem_cons.mpr ⟨rfl, (List.forall_mem_cons.mpr ⟨rfl, (List.forall_mem_cons.mpr ⟨rfl, (List.forall_mem_cons.mpr ⟨rfl, (fun _ h0 => absurd h0 List.not_mem_nil)⟩)⟩)⟩)⟩)⟩) ?_
  exact hk5 v1 v2 v3 (sd_w (v4 + 1)) M _ h
def f_X0_bitsWhere_5 (this : Nat) : Nat → Int → Int → Int → Int → sd_M → Option (Int × sd_M)
  | 0, _, _, _, _, _ => none
  | n + 1, v1, v2, v3, v4, M => if v2 ≤ v4 then (some (v3, M)) else (if 9 ≤ v4 then (some (v3, M)) else (if 0 ≤ v4 ∧ v4 < 9 then (if (M (this + 3) v4.toNat) = v1 then (f_X0_bitsWhere_36 (f_X0_bitsWhere_5 this n) this v1 v2 (sd_or (v3) (sd_shl (1) (v4))) v4 M) else (f_X0_bitsWhere_36 (f_X0_bitsWhere_5 this n) this v1 v2 v3 v4 M)) else none))
set_option maxRecDepth 4000 in
theorem t_X0_bitsWhere_5 {X : Nat → List sd_V → List sd_E → sd_A → Prop} {d : Nat} (hd : 0 ≤ d) (this : Nat) (h_this : sd_o this 0) : ∀ (n : Nat) (v1 : Int) (v2 : Int) (v3 : Int) (v4 : Int) (M : sd_M) (Rr : Int × sd_M), f_X0_bitsWhere_5 this n v1 v2 v3 v4 M = some Rr → sd_B X d sd_q_X0_bitsWhere 5 [(0, .inr (.inr (some (this)))), (1, .inl (v1)), (2, .inl (v2)), (3, .inl (v3)), (4, .inl (v4))] [] M (some (.inl Rr.1), sd_rp Rr.2, 0, 0) := by
  intro n
  induction n with
  | zero => intro v1 v2 v3 v4 M Rr h; cases h
  | succ n ih =>
    intro v1 v2 v3 v4 M Rr h
    rw [f_X0_bitsWhere_5] at h
    refine sd_b_go 2 (pc2 := 8) (lv2 := [(0, .inr (.inr (some (this)))), (1, .inl (v1)), (2, .inl (v2)), (3, .inl (v3)), (4, .inl (v4))]) (st2 := [.inl (v2), .inl (v4)]) rfl ?_
    by_cases c1 : v2 ≤ v4
    · rw [if_pos c1] at h
      refine sd_b_ct (c := .ge) (tgt := 42) rfl (decide_eq_true c1) (by decide) ?_
      refine sd_b_go 1 (pc2 := 43) (lv2 := [(0, .inr (.inr (some (this)))), (1, .inl (v1)), (2, .inl (v2)), (3, .inl (v3)), (4, .inl (v4))]) (st2 := [.inl (v3)]) rfl ?_
      cases h
      exact sd_b_rt rfl rfl rfl
    · rw [if_neg c1] at h
      refine sd_b_cf (c := .ge) rfl (decide_eq_false c1) (by decide) ?_
      refine sd_b_go 2 (pc2 := 15) (lv2 := [(0, .inr (.inr (some (this)))), (1, .inl (v1)), (2, .inl (v2)), (3, .inl (v3)), (4, .inl (v4))]) (st2 := [.inl (9), .inl (v4)]) rfl ?_
      by_cases c2 : 9 ≤ v4
      · rw [if_pos c2] at h
        refine sd_b_ct (c := .ge) (tgt := 42) rfl (decide_eq_true c2) (by decide) ?_
        refine sd_b_go 1 (pc2 := 43) (lv2 := [(0, .inr (.inr (some (this)))), (1, .inl (v1)), (2, .inl (v2)), (3, .inl (v3)), (4, .inl (v4))]) (st2 := [.inl (v3)]) rfl ?_
        cases h
        exact sd_b_rt rfl rfl rfl
      · rw [if_neg c2] at h
        refine sd_b_cf (c := .ge) rfl (decide_eq_false c2) (by decide) ?_
        refine sd_b_go 1 (pc2 := 19) (lv2 := [(0, .inr (.inr (some (this)))), (1, .inl (v1)), (2, .inl (v2)), (3, .inl (v3)), (4, .inl (v4))]) (st2 := [.inr (.inr (some (this)))]) rfl ?_
        refine sd_b_gr (k := 7) h_this rfl rfl rfl ?_
        refine sd_b_go 1 (pc2 := 24) (lv2 := [(0, .inr (.inr (some (this)))), (1, .inl (v1)), (2, .inl (v2)), (3, .inl (v3)), (4, .inl (v4))]) (st2 := [.inl (v4), .inr (.inr (some (this + 3)))]) rfl ?_
        obtain ⟨g3, h⟩ := sd_if h
        refine sd_b_ai (sd_oa h_this (by decide) (off := 3) (List.mem_of_getElem? (i := 2) rfl)) g3 rfl ?_
        refine sd_b_go 1 (pc2 := 26) (lv2 := [(0, .inr (.inr (some (this)))), (1, .inl (v1)), (2, .inl (v2)), (3, .inl (v3)), (4, .inl (v4))]) (st2 := [.inl (v1), .inl (M (this + 3) v4.toNat)]) rfl ?_
        by_cases c4 : (M (this + 3) v4.toNat) = v1
        · rw [if_pos c4] at h
          refine sd_b_cf (c := .ne) rfl (decide_eq_false (not_not_intro c4)) (by decide) ?_
          refine sd_b_go 6 (pc2 := 36) (lv2 := [(3, .inl (sd_or (v3) (sd_shl (1) (v4)))), (0, .inr (.inr (some (this)))), (1, .inl (v1)), (2, .inl (v2)), (4, .inl (v4))]) (st2 := []) rfl ?_
          refine sd_b_wk [(0, .inr (.inr (some (this)))), (1, .inl (v1)), (2, .inl (v2)), (3, .inl (sd_or (v3) (sd_shl (1) (v4)))), (4, .inl (v4))] (List.forall_mem_cons.mpr ⟨rfl, (List.forall_mem_cons.mpr ⟨rfl, (List.forall_mem_cons.mpr ⟨rfl, (List.forall_mem_cons.mpr ⟨rfl, (List.forall_mem_cons.mpr ⟨rfl, (fun _ h0 => absurd h0 List.not_mem_nil)⟩)⟩)⟩)⟩)⟩) ?_
          exact t_X0_bitsWhere_36 hd this h_this (f_X0_bitsWhere_5 this n) ih v1 v2 (sd_or (v3) (sd_shl (1) (v4))) v4 M _ h
        · rw [if_neg c4] at h
          refine sd_b_ct (c := .ne) (tgt := 36) rfl (decide_eq_true c4) (by decide) ?_
          refine sd_b_wk [(0, .inr (.inr (some (this)))), (1, .inl (v1)), (2, .inl (v2)), (3, .inl (v3)), (4, .inl (v4))] (List.forall_mem_cons.mpr ⟨rfl, (List.forall_mem_cons.mpr ⟨rfl, (List.forall_mem_cons.mpr ⟨rfl, (List.forall_mem_cons.mpr ⟨rfl, (List.forall_mem_cons.mpr ⟨rfl, (fun _ h0 => absurd h0 List.not_mem_nil)⟩)⟩)⟩)⟩)⟩) ?_
          exact t_X0_bitsWhere_36 hd this h_this (f_X0_bitsWhere_5 this n) ih v1 v2 v3 v4 M _ h
def f_X0_bitsWhere (this : Nat) (p1 : Int) (p2 : Int) (M : sd_M) : Option (Int × sd_M) := f_X0_bitsWhere_5 this 4000 p1 p2 0 0 M
set_option maxRecDepth 4000 in
theorem t_X0_bitsWhere {X : Nat → List sd_V → List sd_E → sd_A → Prop} {d : Nat} (hd : 0 ≤ d) (this : Nat) (h_this : sd_o this 0) (p1 : Int) (p2 : Int) (M : sd_M) (Rr : Int × sd_M) (h : f_X0_bitsWhere this p1 p2 M = some Rr) : sd_B X d sd_q_X0_bitsWhere 0 [(0, .inr (.inr (some (this)))), (1, .inl (p1)), (2, .inl (p2))] [] M (some (.inl Rr.1), sd_rp Rr.2, 0, 0) := by
  unfold f_X0_bitsWhere at h
  refine sd_b_go 4 (pc2 := 5) (lv2 := [(4, .inl (0)), (3, .inl (0)), (0, .inr (.inr (some (this)))), (1, .inl (p1)), (2, .inl (p2))]) (st2 := []) rfl ?_
  refine sd_b_wk [(0, .inr (.inr (some (this)))), (1, .inl (p1)), (2, .inl (p2)), (3, .inl (0)), (4, .inl (0))] (List.forall_mem_cons.mpr ⟨rfl, (List.forall_mem_cons.mpr ⟨rfl, (List.forall_mem_cons.mpr ⟨rfl, (List.forall_mem_cons.mpr ⟨rfl, (List.forall_mem_cons.mpr ⟨rfl, (fun _ h0 => absurd h0 List.not_mem_nil)⟩)⟩)⟩)⟩)⟩) ?_
  exact t_X0_bitsWhere_5 hd this h_this 4000 p1 p2 0 0 M _ h
theorem m_X0_bitsWhere {X : Nat → List sd_V → List sd_E → sd_A → Prop} {d : Nat} (hd : 1 ≤ d) {this : Nat} (h_this : sd_o this 0) {p1 : Int} {p2 : Int} {M : sd_M} {Rr : Int × sd_M} (h : f_X0_bitsWhere this p1 p2 M = some Rr) : sd_Cal X d 4 [.inr (.inr (some (this))), .inl (p1), .inl (p2)] (sd_rp M) (some (.inl Rr.1), sd_rp Rr.2, 0, 0) := by
  obtain ⟨d, rfl⟩ : ∃ d2, d = d2 + 1 := ⟨d - 1, by omega⟩
  exact sd_cal_of sd_i_X0_bitsWhere (Nat.le_of_ble_eq_true rfl) (t_X0_bitsWhere (by omega) this h_this p1 p2 M Rr h)
-- X0_lineBits
def sd_q_X0_lineBits : sd_MI := (yX0_lineBits, cX0_lineBits, 1, (some .int), 0, 0, sd_t_X0_lineBits)
set_option maxRecDepth 4000 in
theorem sd_i_X0_lineBits : sd_mL[5]? = some sd_q_X0_lineBits := rfl
def f_X0_lineBits (this : Nat) (M : sd_M) : Option (Int × sd_M) := (f_X0_bitsWhere this 1 9 M).bind fun r1 => some (r1.1, r1.2)
set_option maxRecDepth 4000 in
theorem t_X0_lineBits {X : Nat → List sd_V → List sd_E → sd_A → Prop} {d : Nat} (hd : 1 ≤ d) (this : Nat) (h_this : sd_o this 0) (M : sd_M) (Rr : Int × sd_M) (h : f_X0_lineBits this M = some Rr) : sd_B X d sd_q_X0_lineBits 0 [(0, .inr (.inr (some (this))))] [] M (some (.inl Rr.1), sd_rp Rr.2, 0, 0) := by
  unfold f_X0_lineBits at h
  refine sd_b_go 3 (pc2 := 4) (lv2 := [(0, .inr (.inr (some (this))))]) (st2 := [.inl (9), .inl (1), .inr (.inr (some (this)))]) rfl ?_
  obtain ⟨r1, e1, h⟩ := sd_bnd h
  refine sd_b_call [.inr (.inr (some (this))), .inl (1), .inl (9)] [] rfl rfl sd_i_X0_bitsWhere rfl rfl (Nat.le_of_ble_eq_true rfl) (sd_rc_v h_this) (m_X0_bitsWhere (by omega) h_this e1) ?_
  cases h
  exact sd_b_rt rfl rfl rfl
theorem m_X0_lineBits {X : Nat → List sd_V → List sd_E → sd_A → Prop} {d : Nat} (hd : 2 ≤ d) {this : Nat} (h_this : sd_o this 0) {M : sd_M} {Rr : Int × sd_M} (h : f_X0_lineBits this M = some Rr) : sd_Cal X d 5 [.inr (.inr (some (this)))] (sd_rp M) (some (.inl Rr.1), sd_rp Rr.2, 0, 0) := by
  obtain ⟨d, rfl⟩ : ∃ d2, d = d2 + 1 := ⟨d - 1, by omega⟩
  exact sd_cal_of sd_i_X0_lineBits (Nat.le_of_ble_eq_true rfl) (t_X0_lineBits (by omega) this h_this M Rr h)
-- X0_lacking
def sd_q_X0_lacking : sd_MI := (yX0_lacking, cX0_lacking, 1, (some .int), 0, 0, sd_t_X0_lacking)
set_option maxRecDepth 4000 in
theorem sd_i_X0_lacking : sd_mL[6]? = some sd_q_X0_lacking := rfl
def f_X0_lacking (this : Nat) (M : sd_M) : Option (Int × sd_M) := some (if 0 < (sd_w ((M this 0) - (M this 2))) then (sd_w ((M this 0) - (M this 2))) else 0, M)
set_option maxRecDepth 4000 in
theorem t_X0_lacking {X : Nat → List sd_V → List sd_E → sd_A → Prop} {d : Nat} (hd : 0 ≤ d) (this : Nat) (h_this : sd_o this 0) (M : sd_M) (Rr : Int × sd_M) (h : f_X0_lacking this M = some Rr) : sd_B X d sd_q_X0_lacking 0 [(0, .inr (.inr (some (this))))] [] M (some (.inl Rr.1), sd_rp Rr.2, 0, 0) := by
  unfold f_X0_lacking at h
  refine sd_b_go 2 (pc2 := 2) (lv2 := [(0, .inr (.inr (some (this))))]) (st2 := [.inr (.inr (some (this))), .inl (0)]) rfl ?_
  refine sd_b_gi (k := 0) h_this rfl rfl rfl ?_
  refine sd_b_go 1 (pc2 := 6) (lv2 := [(0, .inr (.inr (some (this))))]) (st2 := [.inr (.inr (some (this))), .inl (M this 0), .inl (0)]) rfl ?_
  refine sd_b_gi (k := 2) h_this rfl rfl rfl ?_
  refine sd_b_go 1 (pc2 := 10) (lv2 := [(0, .inr (.inr (some (this))))]) (st2 := [.inl (sd_w ((M this 0) - (M this 2))), .inl (0)]) rfl ?_
  refine sd_b_go 1 (pc2 := 13) (lv2 := [(0, .inr (.inr (some (this))))]) (st2 := [.inl (if 0 < (sd_w ((M this 0) - (M this 2))) then (sd_w ((M this 0) - (M this 2))) else 0)]) rfl ?_
  cases h
  exact sd_b_rt rfl rfl rfl
theorem m_X0_lacking {X : Nat → List sd_V → List sd_E → sd_A → Prop} {d : Nat} (hd : 1 ≤ d) {this : Nat} (h_this : sd_o this 0) {M : sd_M} {Rr : Int × sd_M} (h : f_X0_lacking this M = some Rr) : sd_Cal X d 6 [.inr (.inr (some (this)))] (sd_rp M) (some (.inl Rr.1), sd_rp Rr.2, 0, 0) := by
  obtain ⟨d, rfl⟩ : ∃ d2, d = d2 + 1 := ⟨d - 1, by omega⟩
  exact sd_cal_of sd_i_X0_lacking (Nat.le_of_ble_eq_true rfl) (t_X0_lacking (by omega) this h_this M Rr h)
-- X0_signedOf
def sd_q_X0_signedOf : sd_MI := (yX0_signedOf, cX0_signedOf, 4, (some .int), 0, 1, sd_t_X0_signedOf)
set_option maxRecDepth 4000 in
theorem sd_i_X0_signedOf : sd_mL[7]? = some sd_q_X0_signedOf := rfl
def f_X0_signedOf_28 (k4 : Int → Int → Int → sd_M → Option (Int × sd_M)) (this : Nat) (v1 : Int) (v2 : Int) (v3 : Int) (M : sd_M) : Option (Int × sd_M) := k4 v1 v2 (sd_w (v3 + 1)) M
set_option maxRecDepth 4000 in
theorem t_X0_signedOf_28 {X : Nat → List sd_V → List sd_E → sd_A → Prop} {d : Nat} (hd : 0 ≤ d) (this : Nat) (h_this : sd_o this 0) (k4 : Int → Int → Int → sd_M → Option (Int × sd_M)) (hk4 : ∀ (v1 : Int) (v2 : Int) (v3 : Int) (M : sd_M) (Rr : Int × sd_M), k4 v1 v2 v3 M = some Rr → sd_B X d sd_q_X0_signedOf 4 [(0, .inr (.inr (some (this)))), (1, .inl (v1)), (2, .inl (v2)), (3, .inl (v3))] [] M (some (.inl Rr.1), sd_rp Rr.2, 0, 0)) (v1 : Int) (v2 : Int) (v3 : Int) (M : sd_M) (Rr : Int × sd_M) (h : f_X0_signedOf_28 k4 this v1 v2 v3 M = some Rr) : sd_B X d sd_q_X0_signedOf 28 [(0, .inr (.inr (some (this)))), (1, .inl (v1)), (2, .inl (v2)), (3, .inl (v3))] [] M (some (.inl Rr.1), sd_rp Rr.2, 0, 0) := by
  unfold f_X0_signedOf_28 at h
  refine sd_b_go 2 (pc2 := 4) (lv2 := [(3, .inl (sd_w (v3 + 1))), (0, .inr (.inr (some (this)))), (1, .inl (v1)), (2, .inl (v2))]) (st2 := []) rfl ?_
  refine sd_b_wk [(0, .inr (.inr (some (this)))), (1, .inl (v1)), (2, .inl (v2)), (3, .inl (sd_w (v3 + 1)))] (List.forall_mem_cons.mpr ⟨rfl, (List.forall_mem_cons.mpr ⟨rfl, (List.forall_mem_cons.mpr ⟨rfl, (List.forall_mem_cons.mpr ⟨rfl, (fun _ h0 => absurd h0 List.not_mem_nil)⟩)⟩)⟩)⟩) ?_
  exact hk4 v1 v2 (sd_w (v3 + 1)) M _ h
def f_X0_signedOf_4 (this : Nat) : Nat → Int → Int → Int → sd_M → Option (Int × sd_M)
  | 0, _, _, _, _ => none
  | n + 1, v1, v2, v3, M => if 9 ≤ v3 then (some (v2, M)) else (if (sd_and (sd_shr (v1) (v3)) (1)) = 1 then (if 0 ≤ v3 ∧ v3 < 9 then (f_X0_signedOf_28 (f_X0_signedOf_4 this n) this v1 (sd_w (v2 + (M (this + 4) v3.toNat))) v3 M) else none) else (f_X0_signedOf_28 (f_X0_signedOf_4 this n) this v1 v2 v3 M))
set_option maxRecDepth 4000 in
theorem t_X0_signedOf_4 {X : Nat → List sd_V → List sd_E → sd_A → Prop} {d : Nat} (hd : 0 ≤ d) (this : Nat) (h_this : sd_o this 0) : ∀ (n : Nat) (v1 : Int) (v2 : Int) (v3 : Int) (M : sd_M) (Rr : Int × sd_M), f_X0_signedOf_4 this n v1 v2 v3 M = some Rr → sd_B X d sd_q_X0_signedOf 4 [(0, .inr (.inr (some (this)))), (1, .inl (v1)), (2, .inl (v2)), (3, .inl (v3))] [] M (some (.inl Rr.1), sd_rp Rr.2, 0, 0) := by
  intro n
  induction n with
  | zero => intro v1 v2 v3 M Rr h; cases h
  | succ n ih =>
    intro v1 v2 v3 M Rr h
    rw [f_X0_signedOf_4] at h
    refine sd_b_go 2 (pc2 := 7) (lv2 := [(0, .inr (.inr (some (this)))), (1, .inl (v1)), (2, .inl (v2)), (3, .inl (v3))]) (st2 := [.inl (9), .inl (v3)]) rfl ?_
    by_cases c1 : 9 ≤ v3
    · rw [if_pos c1] at h
      refine sd_b_ct (c := .ge) (tgt := 34) rfl (decide_eq_true c1) (by decide) ?_
      refine sd_b_go 1 (pc2 := 35) (lv2 := [(0, .inr (.inr (some (this)))), (1, .inl (v1)), (2, .inl (v2)), (3, .inl (v3))]) (st2 := [.inl (v2)]) rfl ?_
      cases h
      exact sd_b_rt rfl rfl rfl
    · rw [if_neg c1] at h
      refine sd_b_cf (c := .ge) rfl (decide_eq_false c1) (by decide) ?_
      refine sd_b_go 6 (pc2 := 16) (lv2 := [(0, .inr (.inr (some (this)))), (1, .inl (v1)), (2, .inl (v2)), (3, .inl (v3))]) (st2 := [.inl (1), .inl (sd_and (sd_shr (v1) (v3)) (1))]) rfl ?_
      by_cases c2 : (sd_and (sd_shr (v1) (v3)) (1)) = 1
      · rw [if_pos c2] at h
        refine sd_b_cf (c := .ne) rfl (decide_eq_false (not_not_intro c2)) (by decide) ?_
        refine sd_b_go 2 (pc2 := 21) (lv2 := [(0, .inr (.inr (some (this)))), (1, .inl (v1)), (2, .inl (v2)), (3, .inl (v3))]) (st2 := [.inr (.inr (some (this))), .inl (v2)]) rfl ?_
        refine sd_b_gr (k := 8) h_this rfl rfl rfl ?_
        refine sd_b_go 1 (pc2 := 25) (lv2 := [(0, .inr (.inr (some (this)))), (1, .inl (v1)), (2, .inl (v2)), (3, .inl (v3))]) (st2 := [.inl (v3), .inr (.inr (some (this + 4))), .inl (v2)]) rfl ?_
        obtain ⟨g3, h⟩ := sd_if h
        refine sd_b_ai (sd_oa h_this (by decide) (off := 4) (List.mem_of_getElem? (i := 3) rfl)) g3 rfl ?_
        refine sd_b_go 2 (pc2 := 28) (lv2 := [(2, .inl (sd_w (v2 + (M (this + 4) v3.toNat)))), (0, .inr (.inr (some (this)))), (1, .inl (v1)), (3, .inl (v3))]) (st2 := []) rfl ?_
        refine sd_b_wk [(0, .inr (.inr (some (this)))), (1, .inl (v1)), (2, .inl (sd_w (v2 + (M (this + 4) v3.toNat)))), (3, .inl (v3))] (List.forall_mem_cons.mpr ⟨rfl, (List.forall_mem_cons.mpr ⟨rfl, (List.forall_mem_cons.mpr ⟨rfl, (List.forall_mem_cons.mpr ⟨rfl, (fun _ h0 => absurd h0 List.not_mem_nil)⟩)⟩)⟩)⟩) ?_
        exact t_X0_signedOf_28 hd this h_this (f_X0_signedOf_4 this n) ih v1 (sd_w (v2 + (M (this + 4) v3.toNat))) v3 M _ h
      · rw [if_neg c2] at h
        refine sd_b_ct (c := .ne) (tgt := 28) rfl (decide_eq_true c2) (by decide) ?_
        refine sd_b_wk [(0, .inr (.inr (some (this)))), (1, .inl (v1)), (2, .inl (v2)), (3, .inl (v3))] (List.forall_mem_cons.mpr ⟨rfl, (List.forall_mem_cons.mpr ⟨rfl, (List.forall_mem_cons.mpr ⟨rfl, (List.forall_mem_cons.mpr ⟨rfl, (fun _ h0 => absurd h0 List.not_mem_nil)⟩)⟩)⟩)⟩) ?_
        exact t_X0_signedOf_28 hd this h_this (f_X0_signedOf_4 this n) ih v1 v2 v3 M _ h
def f_X0_signedOf (this : Nat) (p1 : Int) (M : sd_M) : Option (Int × sd_M) := f_X0_signedOf_4 this 4000 p1 0 0 M
set_option maxRecDepth 4000 in
theorem t_X0_signedOf {X : Nat → List sd_V → List sd_E → sd_A → Prop} {d : Nat} (hd : 0 ≤ d) (this : Nat) (h_this : sd_o this 0) (p1 : Int) (M : sd_M) (Rr : Int × sd_M) (h : f_X0_signedOf this p1 M = some Rr) : sd_B X d sd_q_X0_signedOf 0 [(0, .inr (.inr (some (this)))), (1, .inl (p1))] [] M (some (.inl Rr.1), sd_rp Rr.2, 0, 0) := by
  unfold f_X0_signedOf at h
  refine sd_b_go 4 (pc2 := 4) (lv2 := [(3, .inl (0)), (2, .inl (0)), (0, .inr (.inr (some (this)))), (1, .inl (p1))]) (st2 := []) rfl ?_
  refine sd_b_wk [(0, .inr (.inr (some (this)))), (1, .inl (p1)), (2, .inl (0)), (3, .inl (0))] (List.forall_mem_cons.mpr ⟨rfl, (List.forall_mem_cons.mpr ⟨rfl, (List.forall_mem_cons.mpr ⟨rfl, (List.forall_mem_cons.mpr ⟨rfl, (fun _ h0 => absurd h0 List.not_mem_nil)⟩)⟩)⟩)⟩) ?_
  exact t_X0_signedOf_4 hd this h_this 4000 p1 0 0 M _ h
theorem m_X0_signedOf {X : Nat → List sd_V → List sd_E → sd_A → Prop} {d : Nat} (hd : 1 ≤ d) {this : Nat} (h_this : sd_o this 0) {p1 : Int} {M : sd_M} {Rr : Int × sd_M} (h : f_X0_signedOf this p1 M = some Rr) : sd_Cal X d 7 [.inr (.inr (some (this))), .inl (p1)] (sd_rp M) (some (.inl Rr.1), sd_rp Rr.2, 0, 0) := by
  obtain ⟨d, rfl⟩ : ∃ d2, d = d2 + 1 := ⟨d - 1, by omega⟩
  exact sd_cal_of sd_i_X0_signedOf (Nat.le_of_ble_eq_true rfl) (t_X0_signedOf (by omega) this h_this p1 M Rr h)
-- X0_holds
def sd_q_X0_holds : sd_MI := (yX0_holds, cX0_holds, 4, (some .boolean), 0, 2, sd_t_X0_holds)
set_option maxRecDepth 4000 in
theorem sd_i_X0_holds : sd_mL[15]? = some sd_q_X0_holds := rfl
def f_X0_holds (this : Nat) (p2 : Int) (M : sd_M) : Option (Int × sd_M) := if 0 ≤ p2 ∧ p2 < 12 then (if 0 ≤ p2 ∧ p2 < 12 then (if (M 64 p2.toNat) = 0 then (if (M this 2) < (M 65 p2.toNat) then (some (0, M)) else (some (1, M))) else (if (M 64 p2.toNat) = 1 then ((f_X0_isOn this (M 65 p2.toNat) M).bind fun r6 => if r6.1 = 0 ∨ r6.1 = 1 then some (r6.1, r6.2) else none) else (if (M 64 p2.toNat) = 2 then (if 0 ≤ p2 ∧ p2 < 12 then (if 0 ≤ (M 63 p2.toNat) ∧ (M 63 p2.toNat) < 9 then (if (M (this + 4) (M 63 p2.toNat).toNat) < (M 65 p2.toNat) then (some (0, M)) else (some (1, M))) else none) else none) else (if (M 64 p2.toNat) = 3 then (if (M 65 p2.toNat) < (M this 3) then (some (0, M)) else (some (1, M))) else (if (M 64 p2.toNat) = 4 then ((f_X0_lacking this M).bind fun r15 => if (M 65 p2.toNat) < r15.1 then (some (0, r15.2)) else (some (1, r15.2))) else (if (M 65 p2.toNat) < (M this 1) then (some (0, M)) else (some (1, M)))))))) else none) else none
set_option maxRecDepth 4000 in
theorem t_X0_holds {X : Nat → List sd_V → List sd_E → sd_A → Prop} {d : Nat} (hd : 1 ≤ d) (this : Nat) (h_this : sd_o this 0) (p2 : Int) (M : sd_M) (Rr : Int × sd_M) (h : f_X0_holds this p2 M = some Rr) : sd_B X d sd_q_X0_holds 0 [(0, .inr (.inr (some (this)))), (1, .inr (.inr (some (59)))), (2, .inl (p2))] [] M (some (.inl Rr.1), sd_rp Rr.2, 0, 0) := by
  unfold f_X0_holds at h
  refine sd_b_go 1 (pc2 := 1) (lv2 := [(0, .inr (.inr (some (this)))), (1, .inr (.inr (some (59)))), (2, .inl (p2))]) (st2 := [.inr (.inr (some (59)))]) rfl ?_
  refine sd_b_gr (k := 9) sd_o_59 rfl rfl rfl ?_
  refine sd_b_go 1 (pc2 := 5) (lv2 := [(0, .inr (.inr (some (this)))), (1, .inr (.inr (some (59)))), (2, .inl (p2))]) (st2 := [.inl (p2), .inr (.inr (some (65)))]) rfl ?_
  obtain ⟨g1, h⟩ := sd_if h
  refine sd_b_ai (sd_oa sd_o_59 (by decide) (off := 6) (List.mem_of_getElem? (i := 5) rfl)) g1 rfl ?_
  refine sd_b_go 2 (pc2 := 8) (lv2 := [(3, .inl (M 65 p2.toNat)), (0, .inr (.inr (some (this)))), (1, .inr (.inr (some (59)))), (2, .inl (p2))]) (st2 := [.inr (.inr (some (59)))]) rfl ?_
  refine sd_b_gr (k := 8) sd_o_59 rfl rfl rfl ?_
  refine sd_b_go 1 (pc2 := 12) (lv2 := [(3, .inl (M 65 p2.toNat)), (0, .inr (.inr (some (this)))), (1, .inr (.inr (some (59)))), (2, .inl (p2))]) (st2 := [.inl (p2), .inr (.inr (some (64)))]) rfl ?_
  obtain ⟨g2, h⟩ := sd_if h
  refine sd_b_ai (sd_oa sd_o_59 (by decide) (off := 5) (List.mem_of_getElem? (i := 4) rfl)) g2 rfl ?_
  by_cases c3 : (M 64 p2.toNat) = 0
  · rw [if_pos c3] at h
    refine sd_b_eq c3 ?_
    refine sd_b_go 1 (pc2 := 48) (lv2 := [(3, .inl (M 65 p2.toNat)), (0, .inr (.inr (some (this)))), (1, .inr (.inr (some (59)))), (2, .inl (p2))]) (st2 := []) rfl ?_
    refine sd_b_go 1 (pc2 := 49) (lv2 := [(3, .inl (M 65 p2.toNat)), (0, .inr (.inr (some (this)))), (1, .inr (.inr (some (59)))), (2, .inl (p2))]) (st2 := [.inr (.inr (some (this)))]) rfl ?_
    refine sd_b_gi (k := 2) h_this rfl rfl rfl ?_
    refine sd_b_go 1 (pc2 := 53) (lv2 := [(3, .inl (M 65 p2.toNat)), (0, .inr (.inr (some (this)))), (1, .inr (.inr (some (59)))), (2, .inl (p2))]) (st2 := [.inl (M 65 p2.toNat), .inl (M this 2)]) rfl ?_
    by_cases c4 : (M this 2) < (M 65 p2.toNat)
    · rw [if_pos c4] at h
      refine sd_b_ct (c := .lt) (tgt := 60) rfl (decide_eq_true c4) (by decide) ?_
      refine sd_b_go 1 (pc2 := 61) (lv2 := [(3, .inl (M 65 p2.toNat)), (0, .inr (.inr (some (this)))), (1, .inr (.inr (some (59)))), (2, .inl (p2))]) (st2 := [.inl (0)]) rfl ?_
      cases h
      exact sd_b_rt rfl rfl rfl
    · rw [if_neg c4] at h
      refine sd_b_cf (c := .lt) rfl (decide_eq_false c4) (by decide) ?_
      refine sd_b_go 2 (pc2 := 61) (lv2 := [(3, .inl (M 65 p2.toNat)), (0, .inr (.inr (some (this)))), (1, .inr (.inr (some (59)))), (2, .inl (p2))]) (st2 := [.inl (1)]) rfl ?_
      cases h
      exact sd_b_rt rfl rfl rfl
  · rw [if_neg c3] at h
    by_cases c5 : (M 64 p2.toNat) = 1
    · rw [if_pos c5] at h
      refine sd_b_eq c5 ?_
      refine sd_b_go 1 (pc2 := 62) (lv2 := [(3, .inl (M 65 p2.toNat)), (0, .inr (.inr (some (this)))), (1, .inr (.inr (some (59)))), (2, .inl (p2))]) (st2 := []) rfl ?_
      refine sd_b_go 2 (pc2 := 64) (lv2 := [(3, .inl (M 65 p2.toNat)), (0, .inr (.inr (some (this)))), (1, .inr (.inr (some (59)))), (2, .inl (p2))]) (st2 := [.inl (M 65 p2.toNat), .inr (.inr (some (this)))]) rfl ?_
      obtain ⟨r6, e6, h⟩ := sd_bnd h
      refine sd_b_call [.inr (.inr (some (this))), .inl (M 65 p2.toNat)] [] rfl rfl sd_i_X0_isOn rfl rfl (Nat.le_of_ble_eq_true rfl) (sd_rc_v h_this) (m_X0_isOn (by omega) h_this e6) ?_
      obtain ⟨g7, h⟩ := sd_if h
      cases h
      exact sd_b_rz g7 rfl rfl
    · rw [if_neg c5] at h
      by_cases c8 : (M 64 p2.toNat) = 2
      · rw [if_pos c8] at h
        refine sd_b_eq c8 ?_
        refine sd_b_go 1 (pc2 := 68) (lv2 := [(3, .inl (M 65 p2.toNat)), (0, .inr (.inr (some (this)))), (1, .inr (.inr (some (59)))), (2, .inl (p2))]) (st2 := []) rfl ?_
        refine sd_b_go 1 (pc2 := 69) (lv2 := [(3, .inl (M 65 p2.toNat)), (0, .inr (.inr (some (this)))), (1, .inr (.inr (some (59)))), (2, .inl (p2))]) (st2 := [.inr (.inr (some (this)))]) rfl ?_
        refine sd_b_gr (k := 8) h_this rfl rfl rfl ?_
        refine sd_b_go 1 (pc2 := 73) (lv2 := [(3, .inl (M 65 p2.toNat)), (0, .inr (.inr (some (this)))), (1, .inr (.inr (some (59)))), (2, .inl (p2))]) (st2 := [.inr (.inr (some (59))), .inr (.inr (some (this + 4)))]) rfl ?_
        refine sd_b_gr (k := 7) sd_o_59 rfl rfl rfl ?_
        refine sd_b_go 1 (pc2 := 77) (lv2 := [(3, .inl (M 65 p2.toNat)), (0, .inr (.inr (some (this)))), (1, .inr (.inr (some (59)))), (2, .inl (p2))]) (st2 := [.inl (p2), .inr (.inr (some (63))), .inr (.inr (some (this + 4)))]) rfl ?_
        obtain ⟨g9, h⟩ := sd_if h
        refine sd_b_ai (sd_oa sd_o_59 (by decide) (off := 4) (List.mem_of_getElem? (i := 3) rfl)) g9 rfl ?_
        obtain ⟨g10, h⟩ := sd_if h
        refine sd_b_ai (sd_oa h_this (by decide) (off := 4) (List.mem_of_getElem? (i := 3) rfl)) g10 rfl ?_
        refine sd_b_go 1 (pc2 := 80) (lv2 := [(3, .inl (M 65 p2.toNat)), (0, .inr (.inr (some (this)))), (1, .inr (.inr (some (59)))), (2, .inl (p2))]) (st2 := [.inl (M 65 p2.toNat), .inl (M (this + 4) (M 63 p2.toNat).toNat)]) rfl ?_
        by_cases c11 : (M (this + 4) (M 63 p2.toNat).toNat) < (M 65 p2.toNat)
        · rw [if_pos c11] at h
          refine sd_b_ct (c := .lt) (tgt := 87) rfl (decide_eq_true c11) (by decide) ?_
          refine sd_b_go 1 (pc2 := 88) (lv2 := [(3, .inl (M 65 p2.toNat)), (0, .inr (.inr (some (this)))), (1, .inr (.inr (some (59)))), (2, .inl (p2))]) (st2 := [.inl (0)]) rfl ?_
          cases h
          exact sd_b_rt rfl rfl rfl
        · rw [if_neg c11] at h
          refine sd_b_cf (c := .lt) rfl (decide_eq_false c11) (by decide) ?_
          refine sd_b_go 2 (pc2 := 88) (lv2 := [(3, .inl (M 65 p2.toNat)), (0, .inr (.inr (some (this)))), (1, .inr (.inr (some (59)))), (2, .inl (p2))]) (st2 := [.inl (1)]) rfl ?_
          cases h
          exact sd_b_rt rfl rfl rfl
      · rw [if_neg c8] at h
        by_cases c12 : (M 64 p2.toNat) = 3
        · rw [if_pos c12] at h
          refine sd_b_eq c12 ?_
          refine sd_b_go 1 (pc2 := 89) (lv2 := [(3, .inl (M 65 p2.toNat)), (0, .inr (.inr (some (this)))), (1, .inr (.inr (some (59)))), (2, .inl (p2))]) (st2 := []) rfl ?_
          refine sd_b_go 1 (pc2 := 90) (lv2 := [(3, .inl (M 65 p2.toNat)), (0, .inr (.inr (some (this)))), (1, .inr (.inr (some (59)))), (2, .inl (p2))]) (st2 := [.inr (.inr (some (this)))]) rfl ?_
          refine sd_b_gi (k := 3) h_this rfl rfl rfl ?_
          refine sd_b_go 1 (pc2 := 94) (lv2 := [(3, .inl (M 65 p2.toNat)), (0, .inr (.inr (some (this)))), (1, .inr (.inr (some (59)))), (2, .inl (p2))]) (st2 := [.inl (M 65 p2.toNat), .inl (M this 3)]) rfl ?_
          by_cases c13 : (M 65 p2.toNat) < (M this 3)
          · rw [if_pos c13] at h
            refine sd_b_ct (c := .gt) (tgt := 101) rfl (decide_eq_true c13) (by decide) ?_
            refine sd_b_go 1 (pc2 := 102) (lv2 := [(3, .inl (M 65 p2.toNat)), (0, .inr (.inr (some (this)))), (1, .inr (.inr (some (59)))), (2, .inl (p2))]) (st2 := [.inl (0)]) rfl ?_
            cases h
            exact sd_b_rt rfl rfl rfl
          · rw [if_neg c13] at h
            refine sd_b_cf (c := .gt) rfl (decide_eq_false c13) (by decide) ?_
            refine sd_b_go 2 (pc2 := 102) (lv2 := [(3, .inl (M 65 p2.toNat)), (0, .inr (.inr (some (this)))), (1, .inr (.inr (some (59)))), (2, .inl (p2))]) (st2 := [.inl (1)]) rfl ?_
            cases h
            exact sd_b_rt rfl rfl rfl
        · rw [if_neg c12] at h
          by_cases c14 : (M 64 p2.toNat) = 4
          · rw [if_pos c14] at h
            refine sd_b_eq c14 ?_
            refine sd_b_go 1 (pc2 := 103) (lv2 := [(3, .inl (M 65 p2.toNat)), (0, .inr (.inr (some (this)))), (1, .inr (.inr (some (59)))), (2, .inl (p2))]) (st2 := []) rfl ?_
            refine sd_b_go 1 (pc2 := 104) (lv2 := [(3, .inl (M 65 p2.toNat)), (0, .inr (.inr (some (this)))), (1, .inr (.inr (some (59)))), (2, .inl (p2))]) (st2 := [.inr (.inr (some (this)))]) rfl ?_
            obtain ⟨r15, e15, h⟩ := sd_bnd h
            refine sd_b_call [.inr (.inr (some (this)))] [] rfl rfl sd_i_X0_lacking rfl rfl (Nat.le_of_ble_eq_true rfl) (sd_rc_v h_this) (m_X0_lacking (by omega) h_this e15) ?_
            refine sd_b_go 1 (pc2 := 108) (lv2 := [(3, .inl (M 65 p2.toNat)), (0, .inr (.inr (some (this)))), (1, .inr (.inr (some (59)))), (2, .inl (p2))]) (st2 := [.inl (M 65 p2.toNat), .inl (r15.1)]) rfl ?_
            by_cases c16 : (M 65 p2.toNat) < r15.1
            · rw [if_pos c16] at h
              refine sd_b_ct (c := .gt) (tgt := 115) rfl (decide_eq_true c16) (by decide) ?_
              refine sd_b_go 1 (pc2 := 116) (lv2 := [(3, .inl (M 65 p2.toNat)), (0, .inr (.inr (some (this)))), (1, .inr (.inr (some (59)))), (2, .inl (p2))]) (st2 := [.inl (0)]) rfl ?_
              cases h
              exact sd_b_rt rfl rfl rfl
            · rw [if_neg c16] at h
              refine sd_b_cf (c := .gt) rfl (decide_eq_false c16) (by decide) ?_
              refine sd_b_go 2 (pc2 := 116) (lv2 := [(3, .inl (M 65 p2.toNat)), (0, .inr (.inr (some (this)))), (1, .inr (.inr (some (59)))), (2, .inl (p2))]) (st2 := [.inl (1)]) rfl ?_
              cases h
              exact sd_b_rt rfl rfl rfl
          · rw [if_neg c14] at h
            refine sd_b_td (tgt := 117) rfl (by omega) (by decide) ?_
            refine sd_b_go 1 (pc2 := 118) (lv2 := [(3, .inl (M 65 p2.toNat)), (0, .inr (.inr (some (this)))), (1, .inr (.inr (some (59)))), (2, .inl (p2))]) (st2 := [.inr (.inr (some (this)))]) rfl ?_
            refine sd_b_gi (k := 1) h_this rfl rfl rfl ?_
            refine sd_b_go 1 (pc2 := 122) (lv2 := [(3, .inl (M 65 p2.toNat)), (0, .inr (.inr (some (this)))), (1, .inr (.inr (some (59)))), (2, .inl (p2))]) (st2 := [.inl (M 65 p2.toNat), .inl (M this 1)]) rfl ?_
            by_cases c17 : (M 65 p2.toNat) < (M this 1)
            · rw [if_pos c17] at h
              refine sd_b_ct (c := .gt) (tgt := 129) rfl (decide_eq_true c17) (by decide) ?_
              refine sd_b_go 1 (pc2 := 130) (lv2 := [(3, .inl (M 65 p2.toNat)), (0, .inr (.inr (some (this)))), (1, .inr (.inr (some (59)))), (2, .inl (p2))]) (st2 := [.inl (0)]) rfl ?_
              cases h
              exact sd_b_rt rfl rfl rfl
            · rw [if_neg c17] at h
              refine sd_b_cf (c := .gt) rfl (decide_eq_false c17) (by decide) ?_
              refine sd_b_go 2 (pc2 := 130) (lv2 := [(3, .inl (M 65 p2.toNat)), (0, .inr (.inr (some (this)))), (1, .inr (.inr (some (59)))), (2, .inl (p2))]) (st2 := [.inl (1)]) rfl ?_
              cases h
              exact sd_b_rt rfl rfl rfl
theorem m_X0_holds {X : Nat → List sd_V → List sd_E → sd_A → Prop} {d : Nat} (hd : 2 ≤ d) {this : Nat} (h_this : sd_o this 0) {p2 : Int} {M : sd_M} {Rr : Int × sd_M} (h : f_X0_holds this p2 M = some Rr) : sd_Cal X d 15 [.inr (.inr (some (this))), .inr (.inr (some (59))), .inl (p2)] (sd_rp M) (some (.inl Rr.1), sd_rp Rr.2, 0, 0) := by
  obtain ⟨d, rfl⟩ : ∃ d2, d = d2 + 1 := ⟨d - 1, by omega⟩
  exact sd_cal_of sd_i_X0_holds (Nat.le_of_ble_eq_true rfl) (t_X0_holds (by omega) this h_this p2 M Rr h)
-- X0_lostMost
def sd_q_X0_lostMost : sd_MI := (yX0_lostMost, cX0_lostMost, 9, (some .int), 0, 4, sd_t_X0_lostMost)
set_option maxRecDepth 4000 in
theorem sd_i_X0_lostMost : sd_mL[19]? = some sd_q_X0_lostMost := rfl
def f_X0_lostMost_73 (k16 : Int → Int → Int → Int → Int → Int → sd_M → Option (Int × sd_M)) (this : Nat) (arr0 : Nat) (v1 : Int) (v2 : Int) (v4 : Int) (v5 : Int) (v6 : Int) (v7 : Int) (M : sd_M) : Option (Int × sd_M) := k16 v1 v2 v4 v5 v6 (sd_w (v7 + 1)) M
set_option maxRecDepth 4000 in
theorem t_X0_lostMost_73 {X : Nat → List sd_V → List sd_E → sd_A → Prop} {d : Nat} (hd : 0 ≤ d) (this : Nat) (arr0 : Nat) (h_this : sd_o this 0) (h_arr0 : sd_a arr0 0 9) (k16 : Int → Int → Int → Int → Int → Int → sd_M → Option (Int × sd_M)) (hk16 : ∀ (v1 : Int) (v2 : Int) (v4 : Int) (v5 : Int) (v6 : Int) (v7 : Int) (M : sd_M) (Rr : Int × sd_M), k16 v1 v2 v4 v5 v6 v7 M = some Rr → sd_B X d sd_q_X0_lostMost 16 [(0, .inr (.inr (some (this)))), (1, .inl (v1)), (2, .inl (v2)), (3, .inr (.inr (some (arr0)))), (4, .inl (v4)), (5, .inl (v5)), (6, .inl (v6)), (7, .inl (v7))] [] M (some (.inl Rr.1), sd_rp Rr.2, 0, 0)) (v1 : Int) (v2 : Int) (v4 : Int) (v5 : Int) (v6 : Int) (v7 : Int) (M : sd_M) (Rr : Int × sd_M) (h : f_X0_lostMost_73 k16 this arr0 v1 v2 v4 v5 v6 v7 M = some Rr) : sd_B X d sd_q_X0_lostMost 73 [(0, .inr (.inr (some (this)))), (1, .inl (v1)), (2, .inl (v2)), (3, .inr (.inr (some (arr0)))), (4, .inl (v4)), (5, .inl (v5)), (6, .inl (v6)), (7, .inl (v7))] [] M (some (.inl Rr.1), sd_rp Rr.2, 0, 0) := by
  unfold f_X0_lostMost_73 at h
  refine sd_b_go 2 (pc2 := 16) (lv2 := [(7, .inl (sd_w (v7 + 1))), (0, .inr (.inr (some (this)))), (1, .inl (v1)), (2, .inl (v2)), (3, .inr (.inr (some (arr0)))), (4, .inl (v4)), (5, .inl (v5)), (6, .inl (v6))]) (st2 := []) rfl ?_
  refine sd_b_wk [(0, .inr (.inr (some (this)))), (1, .inl (v1)), (2, .inl (v2)), (3, .inr (.inr (some (arr0)))), (4, .inl (v4)), (5, .inl (v5)), (6, .inl (v6)), (7, .inl (sd_w (v7 + 1)))] (List.forall_mem_cons.mpr ⟨rfl, (List.forall_mem_cons.mpr ⟨rfl, (List.forall_mem_cons.mpr ⟨rfl, (List.forall_mem_cons.mpr ⟨rfl, (List.forall_mem_cons.mpr ⟨rfl, (List.forall_mem_cons.mpr ⟨rfl, (List.forall_mem_cons.mpr ⟨rfl, (List.forall_mem_cons.mpr ⟨rfl, (fun _ h0 => absurd h0 List.not_mem_nil)⟩)⟩)⟩)⟩)⟩)⟩)⟩)⟩) ?_
  exact hk16 v1 v2 v4 v5 v6 (sd_w (v7 + 1)) M _ h
def f_X0_lostMost_16 (this : Nat) (arr0 : Nat) : Nat → Int → Int → Int → Int → Int → Int → sd_M → Option (Int × sd_M)
  | 0, _, _, _, _, _, _, _ => none
  | n + 1, v1, v2, v4, v5, v6, v7, M => if (M this 3) ≤ v7 then (some (v5, M)) else (if 0 ≤ v7 ∧ v7 < 9 then (if (sd_and (sd_shr (v1) (M (this + 6) v7.toNat)) (1)) = 1 then (if 0 ≤ (M (this + 6) v7.toNat) ∧ (M (this + 6) v7.toNat) < 9 then (if v4 ≠ 0 then (if (Int.tmod (sd_w (v2 * (M arr0 (M (this + 6) v7.toNat).toNat))) v4) ≤ v6 then (f_X0_lostMost_73 (f_X0_lostMost_16 this arr0 n) this arr0 v1 v2 v4 v5 v6 v7 M) else (if 0 ≤ (M (this + 6) v7.toNat) ∧ (M (this + 6) v7.toNat) < 9 then (if v4 ≠ 0 then (f_X0_lostMost_73 (f_X0_lostMost_16 this arr0 n) this arr0 v1 v2 v4 (M (this + 6) v7.toNat) (Int.tmod (sd_w (v2 * (M arr0 (M (this + 6) v7.toNat).toNat))) v4) v7 M) else none) else none)) else none) else none) else (f_X0_lostMost_73 (f_X0_lostMost_16 this arr0 n) this arr0 v1 v2 v4 v5 v6 v7 M)) else none)
set_option maxRecDepth 4000 in
theorem t_X0_lostMost_16 {X : Nat → List sd_V → List sd_E → sd_A → Prop} {d : Nat} (hd : 0 ≤ d) (this : Nat) (arr0 : Nat) (h_this : sd_o this 0) (h_arr0 : sd_a arr0 0 9) : ∀ (n : Nat) (v1 : Int) (v2 : Int) (v4 : Int) (v5 : Int) (v6 : Int) (v7 : Int) (M : sd_M) (Rr : Int × sd_M), f_X0_lostMost_16 this arr0 n v1 v2 v4 v5 v6 v7 M = some Rr → sd_B X d sd_q_X0_lostMost 16 [(0, .inr (.inr (some (this)))), (1, .inl (v1)), (2, .inl (v2)), (3, .inr (.inr (some (arr0)))), (4, .inl (v4)), (5, .inl (v5)), (6, .inl (v6)), (7, .inl (v7))] [] M (some (.inl Rr.1), sd_rp Rr.2, 0, 0) := by
  intro n
  induction n with
  | zero => intro v1 v2 v4 v5 v6 v7 M Rr h; cases h
  | succ n ih =>
    intro v1 v2 v4 v5 v6 v7 M Rr h
    rw [f_X0_lostMost_16] at h
    refine sd_b_go 2 (pc2 := 19) (lv2 := [(0, .inr (.inr (some (this)))), (1, .inl (v1)), (2, .inl (v2)), (3, .inr (.inr (some (arr0)))), (4, .inl (v4)), (5, .inl (v5)), (6, .inl (v6)), (7, .inl (v7))]) (st2 := [.inr (.inr (some (this))), .inl (v7)]) rfl ?_
    refine sd_b_gi (k := 3) h_this rfl rfl rfl ?_
    by_cases c1 : (M this 3) ≤ v7
    · rw [if_pos c1] at h
      refine sd_b_ct (c := .ge) (tgt := 79) rfl (decide_eq_true c1) (by decide) ?_
      refine sd_b_go 1 (pc2 := 81) (lv2 := [(0, .inr (.inr (some (this)))), (1, .inl (v1)), (2, .inl (v2)), (3, .inr (.inr (some (arr0)))), (4, .inl (v4)), (5, .inl (v5)), (6, .inl (v6)), (7, .inl (v7))]) (st2 := [.inl (v5)]) rfl ?_
      cases h
      exact sd_b_rt rfl rfl rfl
    · rw [if_neg c1] at h
      refine sd_b_cf (c := .ge) rfl (decide_eq_false c1) (by decide) ?_
      refine sd_b_go 1 (pc2 := 26) (lv2 := [(0, .inr (.inr (some (this)))), (1, .inl (v1)), (2, .inl (v2)), (3, .inr (.inr (some (arr0)))), (4, .inl (v4)), (5, .inl (v5)), (6, .inl (v6)), (7, .inl (v7))]) (st2 := [.inr (.inr (some (this)))]) rfl ?_
      refine sd_b_gr (k := 10) h_this rfl rfl rfl ?_
      refine sd_b_go 1 (pc2 := 31) (lv2 := [(0, .inr (.inr (some (this)))), (1, .inl (v1)), (2, .inl (v2)), (3, .inr (.inr (some (arr0)))), (4, .inl (v4)), (5, .inl (v5)), (6, .inl (v6)), (7, .inl (v7))]) (st2 := [.inl (v7), .inr (.inr (some (this + 6)))]) rfl ?_
      obtain ⟨g2, h⟩ := sd_if h
      refine sd_b_ai (sd_oa h_this (by decide) (off := 6) (List.mem_of_getElem? (i := 5) rfl)) g2 rfl ?_
      refine sd_b_go 7 (pc2 := 41) (lv2 := [(8, .inl (M (this + 6) v7.toNat)), (0, .inr (.inr (some (this)))), (1, .inl (v1)), (2, .inl (v2)), (3, .inr (.inr (some (arr0)))), (4, .inl (v4)), (5, .inl (v5)), (6, .inl (v6)), (7, .inl (v7))]) (st2 := [.inl (1), .inl (sd_and (sd_shr (v1) (M (this + 6) v7.toNat)) (1))]) rfl ?_
      by_cases c3 : (sd_and (sd_shr (v1) (M (this + 6) v7.toNat)) (1)) = 1
      · rw [if_pos c3] at h
        refine sd_b_cf (c := .ne) rfl (decide_eq_false (not_not_intro c3)) (by decide) ?_
        refine sd_b_go 3 (pc2 := 48) (lv2 := [(8, .inl (M (this + 6) v7.toNat)), (0, .inr (.inr (some (this)))), (1, .inl (v1)), (2, .inl (v2)), (3, .inr (.inr (some (arr0)))), (4, .inl (v4)), (5, .inl (v5)), (6, .inl (v6)), (7, .inl (v7))]) (st2 := [.inl (M (this + 6) v7.toNat), .inr (.inr (some (arr0))), .inl (v2)]) rfl ?_
        obtain ⟨g4, h⟩ := sd_if h
        refine sd_b_ai h_arr0 g4 rfl ?_
        refine sd_b_go 2 (pc2 := 52) (lv2 := [(8, .inl (M (this + 6) v7.toNat)), (0, .inr (.inr (some (this)))), (1, .inl (v1)), (2, .inl (v2)), (3, .inr (.inr (some (arr0)))), (4, .inl (v4)), (5, .inl (v5)), (6, .inl (v6)), (7, .inl (v7))]) (st2 := [.inl (v4), .inl (sd_w (v2 * (M arr0 (M (this + 6) v7.toNat).toNat)))]) rfl ?_
        obtain ⟨g5, h⟩ := sd_if h
        refine sd_b_mz g5 rfl ?_
        refine sd_b_go 1 (pc2 := 55) (lv2 := [(8, .inl (M (this + 6) v7.toNat)), (0, .inr (.inr (some (this)))), (1, .inl (v1)), (2, .inl (v2)), (3, .inr (.inr (some (arr0)))), (4, .inl (v4)), (5, .inl (v5)), (6, .inl (v6)), (7, .inl (v7))]) (st2 := [.inl (v6), .inl (Int.tmod (sd_w (v2 * (M arr0 (M (this + 6) v7.toNat).toNat))) v4)]) rfl ?_
        by_cases c6 : (Int.tmod (sd_w (v2 * (M arr0 (M (this + 6) v7.toNat).toNat))) v4) ≤ v6
        · rw [if_pos c6] at h
          refine sd_b_ct (c := .le) (tgt := 73) rfl (decide_eq_true c6) (by decide) ?_
          refine sd_b_wk [(0, .inr (.inr (some (this)))), (1, .inl (v1)), (2, .inl (v2)), (3, .inr (.inr (some (arr0)))), (4, .inl (v4)), (5, .inl (v5)), (6, .inl (v6)), (7, .inl (v7))] (List.forall_mem_cons.mpr ⟨rfl, (List.forall_mem_cons.mpr ⟨rfl, (List.forall_mem_cons.mpr ⟨rfl, (List.forall_mem_cons.mpr ⟨rfl, (List.forall_mem_cons.mpr ⟨rfl, (List.forall_mem_cons.mpr ⟨rfl, (List.forall_mem_cons.mpr ⟨rfl, (List.forall_mem_cons.mpr ⟨rfl, (fun _ h0 => absurd h0 List.not_mem_nil)⟩)⟩)⟩)⟩)⟩)⟩)⟩)⟩) ?_
          exact t_X0_lostMost_73 hd this arr0 h_this h_arr0 (f_X0_lostMost_16 this arr0 n) ih v1 v2 v4 v5 v6 v7 M _ h
        · rw [if_neg c6] at h
          refine sd_b_cf (c := .le) rfl (decide_eq_false c6) (by decide) ?_
          refine sd_b_go 3 (pc2 := 62) (lv2 := [(8, .inl (M (this + 6) v7.toNat)), (0, .inr (.inr (some (this)))), (1, .inl (v1)), (2, .inl (v2)), (3, .inr (.inr (some (arr0)))), (4, .inl (v4)), (5, .inl (v5)), (6, .inl (v6)), (7, .inl (v7))]) (st2 := [.inl (M (this + 6) v7.toNat), .inr (.inr (some (arr0))), .inl (v2)]) rfl ?_
          obtain ⟨g7, h⟩ := sd_if h
          refine sd_b_ai h_arr0 g7 rfl ?_
          refine sd_b_go 2 (pc2 := 66) (lv2 := [(8, .inl (M (this + 6) v7.toNat)), (0, .inr (.inr (some (this)))), (1, .inl (v1)), (2, .inl (v2)), (3, .inr (.inr (some (arr0)))), (4, .inl (v4)), (5, .inl (v5)), (6, .inl (v6)), (7, .inl (v7))]) (st2 := [.inl (v4), .inl (sd_w (v2 * (M arr0 (M (this + 6) v7.toNat).toNat)))]) rfl ?_
          obtain ⟨g8, h⟩ := sd_if h
          refine sd_b_mz g8 rfl ?_
          refine sd_b_go 3 (pc2 := 73) (lv2 := [(5, .inl (M (this + 6) v7.toNat)), (6, .inl (Int.tmod (sd_w (v2 * (M arr0 (M (this + 6) v7.toNat).toNat))) v4)), (8, .inl (M (this + 6) v7.toNat)), (0, .inr (.inr (some (this)))), (1, .inl (v1)), (2, .inl (v2)), (3, .inr (.inr (some (arr0)))), (4, .inl (v4)), (7, .inl (v7))]) (st2 := []) rfl ?_
          refine sd_b_wk [(0, .inr (.inr (some (this)))), (1, .inl (v1)), (2, .inl (v2)), (3, .inr (.inr (some (arr0)))), (4, .inl (v4)), (5, .inl (M (this + 6) v7.toNat)), (6, .inl (Int.tmod (sd_w (v2 * (M arr0 (M (this + 6) v7.toNat).toNat))) v4)), (7, .inl (v7))] (List.forall_mem_cons.mpr ⟨rfl, (List.forall_mem_cons.mpr ⟨rfl, (List.forall_mem_cons.mpr ⟨rfl, (List.forall_mem_cons.mpr ⟨rfl, (List.forall_mem_cons.mpr ⟨rfl, (List.forall_mem_cons.mpr ⟨rfl, (List.forall_mem_cons.mpr ⟨rfl, (List.forall_mem_cons.mpr ⟨rfl, (fun _ h0 => absurd h0 List.not_mem_nil)⟩)⟩)⟩)⟩)⟩)⟩)⟩)⟩) ?_
          exact t_X0_lostMost_73 hd this arr0 h_this h_arr0 (f_X0_lostMost_16 this arr0 n) ih v1 v2 v4 (M (this + 6) v7.toNat) (Int.tmod (sd_w (v2 * (M arr0 (M (this + 6) v7.toNat).toNat))) v4) v7 M _ h
      · rw [if_neg c3] at h
        refine sd_b_ct (c := .ne) (tgt := 73) rfl (decide_eq_true c3) (by decide) ?_
        refine sd_b_wk [(0, .inr (.inr (some (this)))), (1, .inl (v1)), (2, .inl (v2)), (3, .inr (.inr (some (arr0)))), (4, .inl (v4)), (5, .inl (v5)), (6, .inl (v6)), (7, .inl (v7))] (List.forall_mem_cons.mpr ⟨rfl, (List.forall_mem_cons.mpr ⟨rfl, (List.forall_mem_cons.mpr ⟨rfl, (List.forall_mem_cons.mpr ⟨rfl, (List.forall_mem_cons.mpr ⟨rfl, (List.forall_mem_cons.mpr ⟨rfl, (List.forall_mem_cons.mpr ⟨rfl, (List.forall_mem_cons.mpr ⟨rfl, (fun _ h0 => absurd h0 List.not_mem_nil)⟩)⟩)⟩)⟩)⟩)⟩)⟩)⟩) ?_
        exact t_X0_lostMost_73 hd this arr0 h_this h_arr0 (f_X0_lostMost_16 this arr0 n) ih v1 v2 v4 v5 v6 v7 M _ h
def f_X0_lostMost (this : Nat) (arr0 : Nat) (p1 : Int) (p2 : Int) (p4 : Int) (M : sd_M) : Option (Int × sd_M) := if 0 < p4 then (f_X0_lostMost_16 this arr0 4000 p1 p2 p4 ((-1)) ((-1)) 0 M) else (some ((-1), M))
set_option maxRecDepth 4000 in
theorem t_X0_lostMost {X : Nat → List sd_V → List sd_E → sd_A → Prop} {d : Nat} (hd : 0 ≤ d) (this : Nat) (arr0 : Nat) (h_this : sd_o this 0) (h_arr0 : sd_a arr0 0 9) (p1 : Int) (p2 : Int) (p4 : Int) (M : sd_M) (Rr : Int × sd_M) (h : f_X0_lostMost this arr0 p1 p2 p4 M = some Rr) : sd_B X d sd_q_X0_lostMost 0 [(0, .inr (.inr (some (this)))), (1, .inl (p1)), (2, .inl (p2)), (3, .inr (.inr (some (arr0)))), (4, .inl (p4))] [] M (some (.inl Rr.1), sd_rp Rr.2, 0, 0) := by
  unfold f_X0_lostMost at h
  refine sd_b_go 1 (pc2 := 2) (lv2 := [(0, .inr (.inr (some (this)))), (1, .inl (p1)), (2, .inl (p2)), (3, .inr (.inr (some (arr0)))), (4, .inl (p4))]) (st2 := [.inl (p4)]) rfl ?_
  by_cases c1 : 0 < p4
  · rw [if_pos c1] at h
    refine sd_b_zt (c := .gt) (tgt := 7) rfl (decide_eq_true c1) (by decide) ?_
    refine sd_b_go 6 (pc2 := 16) (lv2 := [(7, .inl (0)), (6, .inl ((-1))), (5, .inl ((-1))), (0, .inr (.inr (some (this)))), (1, .inl (p1)), (2, .inl (p2)), (3, .inr (.inr (some (arr0)))), (4, .inl (p4))]) (st2 := []) rfl ?_
    refine sd_b_wk [(0, .inr (.inr (some (this)))), (1, .inl (p1)), (2, .inl (p2)), (3, .inr (.inr (some (arr0)))), (4, .inl (p4)), (5, .inl ((-1))), (6, .inl ((-1))), (7, .inl (0))] (List.forall_mem_cons.mpr ⟨rfl, (List.forall_mem_cons.mpr ⟨rfl, (List.forall_mem_cons.mpr ⟨rfl, (List.forall_mem_cons.mpr ⟨rfl, (List.forall_mem_cons.mpr ⟨rfl, (List.forall_mem_cons.mpr ⟨rfl, (List.forall_mem_cons.mpr ⟨rfl, (List.forall_mem_cons.mpr ⟨rfl, (fun _ h0 => absurd h0 List.not_mem_nil)⟩)⟩)⟩)⟩)⟩)⟩)⟩)⟩) ?_
    exact t_X0_lostMost_16 hd this arr0 h_this h_arr0 4000 p1 p2 p4 ((-1)) ((-1)) 0 M _ h
  · rw [if_neg c1] at h
    refine sd_b_zf (c := .gt) rfl (decide_eq_false c1) (by decide) ?_
    refine sd_b_go 1 (pc2 := 6) (lv2 := [(0, .inr (.inr (some (this)))), (1, .inl (p1)), (2, .inl (p2)), (3, .inr (.inr (some (arr0)))), (4, .inl (p4))]) (st2 := [.inl ((-1))]) rfl ?_
    cases h
    exact sd_b_rt rfl rfl rfl
theorem m_X0_lostMost {X : Nat → List sd_V → List sd_E → sd_A → Prop} {d : Nat} (hd : 1 ≤ d) {this : Nat} {arr0 : Nat} (h_this : sd_o this 0) (h_arr0 : sd_a arr0 0 9) {p1 : Int} {p2 : Int} {p4 : Int} {M : sd_M} {Rr : Int × sd_M} (h : f_X0_lostMost this arr0 p1 p2 p4 M = some Rr) : sd_Cal X d 19 [.inr (.inr (some (this))), .inl (p1), .inl (p2), .inr (.inr (some (arr0))), .inl (p4)] (sd_rp M) (some (.inl Rr.1), sd_rp Rr.2, 0, 0) := by
  obtain ⟨d, rfl⟩ : ∃ d2, d = d2 + 1 := ⟨d - 1, by omega⟩
  exact sd_cal_of sd_i_X0_lostMost (Nat.le_of_ble_eq_true rfl) (t_X0_lostMost (by omega) this arr0 h_this h_arr0 p1 p2 p4 M Rr h)
-- X2_draw
def sd_q_X2_draw : sd_MI := (yX2_draw, cX2_draw, 1, (some .int), 2, 0, sd_t_X2_draw)
set_option maxRecDepth 4000 in
theorem sd_i_X2_draw : sd_mL[26]? = some sd_q_X2_draw := rfl
def f_X2_draw (this : Nat) (M : sd_M) : Option (Int × sd_M) := some (sd_w (Int.tdiv (sd_s M this 4 (sd_w (Int.tmod (sd_wl ((sd_wl ((M this 4) * 1103515245)) + 12345)) 2147483648)) this 4) 65536), sd_s M this 4 (sd_w (Int.tmod (sd_wl ((sd_wl ((M this 4) * 1103515245)) + 12345)) 2147483648)))
set_option maxRecDepth 4000 in
theorem t_X2_draw {X : Nat → List sd_V → List sd_E → sd_A → Prop} {d : Nat} (hd : 0 ≤ d) (this : Nat) (h_this : sd_o this 2) (M : sd_M) (Rr : Int × sd_M) (h : f_X2_draw this M = some Rr) : sd_B X d sd_q_X2_draw 0 [(0, .inr (.inr (some (this))))] [] M (some (.inl Rr.1), sd_rp Rr.2, 0, 0) := by
  unfold f_X2_draw at h
  refine sd_b_go 2 (pc2 := 2) (lv2 := [(0, .inr (.inr (some (this))))]) (st2 := [.inr (.inr (some (this))), .inr (.inr (some (this)))]) rfl ?_
  refine sd_b_gi (k := 4) h_this rfl rfl rfl ?_
  refine sd_b_go 6 (pc2 := 17) (lv2 := [(0, .inr (.inr (some (this))))]) (st2 := [.inr (.inl (2147483648)), .inr (.inl (sd_wl ((sd_wl ((M this 4) * 1103515245)) + 12345))), .inr (.inr (some (this)))]) rfl ?_
  refine sd_b_lmz (by decide) rfl ?_
  refine sd_b_go 1 (pc2 := 19) (lv2 := [(0, .inr (.inr (some (this))))]) (st2 := [.inl (sd_w (Int.tmod (sd_wl ((sd_wl ((M this 4) * 1103515245)) + 12345)) 2147483648)), .inr (.inr (some (this)))]) rfl ?_
  refine sd_b_pi (k := 4) h_this rfl rfl rfl rfl rfl ?_
  refine sd_b_go 1 (pc2 := 23) (lv2 := [(0, .inr (.inr (some (this))))]) (st2 := [.inr (.inr (some (this)))]) rfl ?_
  refine sd_b_gi (k := 4) h_this rfl rfl rfl ?_
  refine sd_b_go 1 (pc2 := 28) (lv2 := [(0, .inr (.inr (some (this))))]) (st2 := [.inl (65536), .inl (sd_s M this 4 (sd_w (Int.tmod (sd_wl ((sd_wl ((M this 4) * 1103515245)) + 12345)) 2147483648)) this 4)]) rfl ?_
  refine sd_b_dz (by decide) rfl rfl ?_
  cases h
  exact sd_b_rt rfl rfl rfl
theorem m_X2_draw {X : Nat → List sd_V → List sd_E → sd_A → Prop} {d : Nat} (hd : 1 ≤ d) {this : Nat} (h_this : sd_o this 2) {M : sd_M} {Rr : Int × sd_M} (h : f_X2_draw this M = some Rr) : sd_Cal X d 26 [.inr (.inr (some (this)))] (sd_rp M) (some (.inl Rr.1), sd_rp Rr.2, 0, 0) := by
  obtain ⟨d, rfl⟩ : ∃ d2, d = d2 + 1 := ⟨d - 1, by omega⟩
  exact sd_cal_of sd_i_X2_draw (Nat.le_of_ble_eq_true rfl) (t_X2_draw (by omega) this h_this M Rr h)
-- X3_copyFrom
def sd_q_X3_copyFrom : sd_MI := (yX3_copyFrom, cX3_copyFrom, 2, none, 3, 1, sd_t_X3_copyFrom)
set_option maxRecDepth 4000 in
theorem sd_i_X3_copyFrom : sd_mL[28]? = some sd_q_X3_copyFrom := rfl
def f_X3_copyFrom (this : Nat) (other : Nat) (M : sd_M) : Option (Int × sd_M) := some (0, sd_cp (sd_cp (sd_s M this 0 (M other 0)) (other + 1) (this + 1) 10) (other + 2) (this + 2) 10)
set_option maxRecDepth 4000 in
theorem t_X3_copyFrom {X : Nat → List sd_V → List sd_E → sd_A → Prop} {d : Nat} (hd : 0 ≤ d) (this : Nat) (other : Nat) (h_this : sd_o this 3) (h_other : sd_o other 3) (M : sd_M) (Rr : Int × sd_M) (h : f_X3_copyFrom this other M = some Rr) : sd_B X d sd_q_X3_copyFrom 0 [(0, .inr (.inr (some (this)))), (1, .inr (.inr (some (other))))] [] M (none, sd_rp Rr.2, 0, 0) := by
  unfold f_X3_copyFrom at h
  refine sd_b_go 2 (pc2 := 2) (lv2 := [(0, .inr (.inr (some (this)))), (1, .inr (.inr (some (other))))]) (st2 := [.inr (.inr (some (other))), .inr (.inr (some (this)))]) rfl ?_
  refine sd_b_gi (k := 0) h_other rfl rfl rfl ?_
  refine sd_b_pi (k := 0) h_this rfl rfl rfl rfl rfl ?_
  refine sd_b_go 1 (pc2 := 9) (lv2 := [(0, .inr (.inr (some (this)))), (1, .inr (.inr (some (other))))]) (st2 := [.inr (.inr (some (other)))]) rfl ?_
  refine sd_b_gr (k := 1) h_other rfl rfl rfl ?_
  refine sd_b_go 2 (pc2 := 14) (lv2 := [(0, .inr (.inr (some (this)))), (1, .inr (.inr (some (other))))]) (st2 := [.inr (.inr (some (this))), .inl (0), .inr (.inr (some (other + 1)))]) rfl ?_
  refine sd_b_gr (k := 1) h_this rfl rfl rfl ?_
  refine sd_b_go 2 (pc2 := 20) (lv2 := [(0, .inr (.inr (some (this)))), (1, .inr (.inr (some (other))))]) (st2 := [.inl (10), .inl (0), .inr (.inr (some (this + 1))), .inl (0), .inr (.inr (some (other + 1)))]) rfl ?_
  refine sd_b_cp (n := 10) (sd_oa h_other (by decide) (off := 1) (List.mem_of_getElem? (i := 0) rfl)) (sd_oa h_this (by decide) (off := 1) (List.mem_of_getElem? (i := 0) rfl)) (by decide) (by decide) (Nat.le_of_ble_eq_true rfl) rfl rfl ?_
  refine sd_b_go 1 (pc2 := 24) (lv2 := [(0, .inr (.inr (some (this)))), (1, .inr (.inr (some (other))))]) (st2 := [.inr (.inr (some (other)))]) rfl ?_
  refine sd_b_gr (k := 2) h_other rfl rfl rfl ?_
  refine sd_b_go 2 (pc2 := 29) (lv2 := [(0, .inr (.inr (some (this)))), (1, .inr (.inr (some (other))))]) (st2 := [.inr (.inr (some (this))), .inl (0), .inr (.inr (some (other + 2)))]) rfl ?_
  refine sd_b_gr (k := 2) h_this rfl rfl rfl ?_
  refine sd_b_go 2 (pc2 := 35) (lv2 := [(0, .inr (.inr (some (this)))), (1, .inr (.inr (some (other))))]) (st2 := [.inl (10), .inl (0), .inr (.inr (some (this + 2))), .inl (0), .inr (.inr (some (other + 2)))]) rfl ?_
  refine sd_b_cp (n := 10) (sd_oa h_other (by decide) (off := 2) (List.mem_of_getElem? (i := 1) rfl)) (sd_oa h_this (by decide) (off := 2) (List.mem_of_getElem? (i := 1) rfl)) (by decide) (by decide) (Nat.le_of_ble_eq_true rfl) rfl rfl ?_
  cases h
  exact sd_b_rt rfl rfl rfl
theorem m_X3_copyFrom {X : Nat → List sd_V → List sd_E → sd_A → Prop} {d : Nat} (hd : 1 ≤ d) {this : Nat} {other : Nat} (h_this : sd_o this 3) (h_other : sd_o other 3) {M : sd_M} {Rr : Int × sd_M} (h : f_X3_copyFrom this other M = some Rr) : sd_Cal X d 28 [.inr (.inr (some (this))), .inr (.inr (some (other)))] (sd_rp M) (none, sd_rp Rr.2, 0, 0) := by
  obtain ⟨d, rfl⟩ : ∃ d2, d = d2 + 1 := ⟨d - 1, by omega⟩
  exact sd_cal_of sd_i_X3_copyFrom (Nat.le_of_ble_eq_true rfl) (t_X3_copyFrom (by omega) this other h_this h_other M Rr h)
-- X3_adds
def sd_q_X3_adds : sd_MI := (yX3_adds, cX3_adds, 3, (some .boolean), 3, 2, sd_t_X3_adds)
set_option maxRecDepth 4000 in
theorem sd_i_X3_adds : sd_mL[29]? = some sd_q_X3_adds := rfl
def f_X3_adds (this : Nat) (p1 : Int) (p2 : Int) (M : sd_M) : Option (Int × sd_M) := if (M this 0) < 0 then (some (0, M)) else (if (M this 0) < 10 then (if 0 ≤ (M this 0) ∧ (M this 0) < 10 then (if 0 ≤ (sd_s M (this + 1) (M this 0).toNat p1 this 0) ∧ (sd_s M (this + 1) (M this 0).toNat p1 this 0) < 10 then (some (1, sd_s (sd_s (sd_s M (this + 1) (M this 0).toNat p1) (this + 2) (sd_s M (this + 1) (M this 0).toNat p1 this 0).toNat p2) this 0 (sd_w ((sd_s (sd_s M (this + 1) (M this 0).toNat p1) (this + 2) (sd_s M (this + 1) (M this 0).toNat p1 this 0).toNat p2 this 0) + 1)))) else none) else none) else (some (0, M)))
set_option maxRecDepth 4000 in
theorem t_X3_adds {X : Nat → List sd_V → List sd_E → sd_A → Prop} {d : Nat} (hd : 0 ≤ d) (this : Nat) (h_this : sd_o this 3) (p1 : Int) (p2 : Int) (M : sd_M) (Rr : Int × sd_M) (h : f_X3_adds this p1 p2 M = some Rr) : sd_B X d sd_q_X3_adds 0 [(0, .inr (.inr (some (this)))), (1, .inl (p1)), (2, .inl (p2))] [] M (some (.inl Rr.1), sd_rp Rr.2, 0, 0) := by
  unfold f_X3_adds at h
  refine sd_b_go 1 (pc2 := 1) (lv2 := [(0, .inr (.inr (some (this)))), (1, .inl (p1)), (2, .inl (p2))]) (st2 := [.inr (.inr (some (this)))]) rfl ?_
  refine sd_b_gi (k := 0) h_this rfl rfl rfl ?_
  by_cases c1 : (M this 0) < 0
  · rw [if_pos c1] at h
    refine sd_b_zt (c := .lt) (tgt := 16) rfl (decide_eq_true c1) (by decide) ?_
    refine sd_b_go 1 (pc2 := 17) (lv2 := [(0, .inr (.inr (some (this)))), (1, .inl (p1)), (2, .inl (p2))]) (st2 := [.inl (0)]) rfl ?_
    cases h
    exact sd_b_rt rfl rfl rfl
  · rw [if_neg c1] at h
    refine sd_b_zf (c := .lt) rfl (decide_eq_false c1) (by decide) ?_
    refine sd_b_go 1 (pc2 := 8) (lv2 := [(0, .inr (.inr (some (this)))), (1, .inl (p1)), (2, .inl (p2))]) (st2 := [.inr (.inr (some (this)))]) rfl ?_
    refine sd_b_gi (k := 0) h_this rfl rfl rfl ?_
    refine sd_b_go 1 (pc2 := 13) (lv2 := [(0, .inr (.inr (some (this)))), (1, .inl (p1)), (2, .inl (p2))]) (st2 := [.inl (10), .inl (M this 0)]) rfl ?_
    by_cases c2 : (M this 0) < 10
    · rw [if_pos c2] at h
      refine sd_b_ct (c := .lt) (tgt := 18) rfl (decide_eq_true c2) (by decide) ?_
      refine sd_b_go 1 (pc2 := 19) (lv2 := [(0, .inr (.inr (some (this)))), (1, .inl (p1)), (2, .inl (p2))]) (st2 := [.inr (.inr (some (this)))]) rfl ?_
      refine sd_b_gr (k := 1) h_this rfl rfl rfl ?_
      refine sd_b_go 1 (pc2 := 23) (lv2 := [(0, .inr (.inr (some (this)))), (1, .inl (p1)), (2, .inl (p2))]) (st2 := [.inr (.inr (some (this))), .inr (.inr (some (this + 1)))]) rfl ?_
      refine sd_b_gi (k := 0) h_this rfl rfl rfl ?_
      refine sd_b_go 1 (pc2 := 27) (lv2 := [(0, .inr (.inr (some (this)))), (1, .inl (p1)), (2, .inl (p2))]) (st2 := [.inl (p1), .inl (M this 0), .inr (.inr (some (this + 1)))]) rfl ?_
      obtain ⟨g3, h⟩ := sd_if h
      refine sd_b_si (sd_oa h_this (by decide) (off := 1) (List.mem_of_getElem? (i := 0) rfl)) g3 rfl ?_
      refine sd_b_go 1 (pc2 := 29) (lv2 := [(0, .inr (.inr (some (this)))), (1, .inl (p1)), (2, .inl (p2))]) (st2 := [.inr (.inr (some (this)))]) rfl ?_
      refine sd_b_gr (k := 2) h_this rfl rfl rfl ?_
      refine sd_b_go 1 (pc2 := 33) (lv2 := [(0, .inr (.inr (some (this)))), (1, .inl (p1)), (2, .inl (p2))]) (st2 := [.inr (.inr (some (this))), .inr (.inr (some (this + 2)))]) rfl ?_
      refine sd_b_gi (k := 0) h_this rfl rfl rfl ?_
      refine sd_b_go 1 (pc2 := 37) (lv2 := [(0, .inr (.inr (some (this)))), (1, .inl (p1)), (2, .inl (p2))]) (st2 := [.inl (p2), .inl (sd_s M (this + 1) (M this 0).toNat p1 this 0), .inr (.inr (some (this + 2)))]) rfl ?_
      obtain ⟨g4, h⟩ := sd_if h
      refine sd_b_si (sd_oa h_this (by decide) (off := 2) (List.mem_of_getElem? (i := 1) rfl)) g4 rfl ?_
      refine sd_b_go 2 (pc2 := 40) (lv2 := [(0, .inr (.inr (some (this)))), (1, .inl (p1)), (2, .inl (p2))]) (st2 := [.inr (.inr (some (this))), .inr (.inr (some (this)))]) rfl ?_
      refine sd_b_gi (k := 0) h_this rfl rfl rfl ?_
      refine sd_b_go 2 (pc2 := 45) (lv2 := [(0, .inr (.inr (some (this)))), (1, .inl (p1)), (2, .inl (p2))]) (st2 := [.inl (sd_w ((sd_s (sd_s M (this + 1) (M this 0).toNat p1) (this + 2) (sd_s M (this + 1) (M this 0).toNat p1 this 0).toNat p2 this 0) + 1)), .inr (.inr (some (this)))]) rfl ?_
      refine sd_b_pi (k := 0) h_this rfl rfl rfl rfl rfl ?_
      refine sd_b_go 1 (pc2 := 49) (lv2 := [(0, .inr (.inr (some (this)))), (1, .inl (p1)), (2, .inl (p2))]) (st2 := [.inl (1)]) rfl ?_
      cases h
      exact sd_b_rt rfl rfl rfl
    · rw [if_neg c2] at h
      refine sd_b_cf (c := .lt) rfl (decide_eq_false c2) (by decide) ?_
      refine sd_b_go 1 (pc2 := 17) (lv2 := [(0, .inr (.inr (some (this)))), (1, .inl (p1)), (2, .inl (p2))]) (st2 := [.inl (0)]) rfl ?_
      cases h
      exact sd_b_rt rfl rfl rfl
theorem m_X3_adds {X : Nat → List sd_V → List sd_E → sd_A → Prop} {d : Nat} (hd : 1 ≤ d) {this : Nat} (h_this : sd_o this 3) {p1 : Int} {p2 : Int} {M : sd_M} {Rr : Int × sd_M} (h : f_X3_adds this p1 p2 M = some Rr) : sd_Cal X d 29 [.inr (.inr (some (this))), .inl (p1), .inl (p2)] (sd_rp M) (some (.inl Rr.1), sd_rp Rr.2, 0, 0) := by
  obtain ⟨d, rfl⟩ : ∃ d2, d = d2 + 1 := ⟨d - 1, by omega⟩
  exact sd_cal_of sd_i_X3_adds (Nat.le_of_ble_eq_true rfl) (t_X3_adds (by omega) this h_this p1 p2 M Rr h)
-- X3_lastDay
def sd_q_X3_lastDay : sd_MI := (yX3_lastDay, cX3_lastDay, 3, (some .int), 3, 0, sd_t_X3_lastDay)
set_option maxRecDepth 4000 in
theorem sd_i_X3_lastDay : sd_mL[30]? = some sd_q_X3_lastDay := rfl
def f_X3_lastDay_4 (this : Nat) : Nat → Int → Int → sd_M → Option (Int × sd_M)
  | 0, _, _, _ => none
  | n + 1, v1, v2, M => if (M this 0) ≤ v2 then (some (v1, M)) else (if 0 ≤ v2 ∧ v2 < 10 then (f_X3_lastDay_4 this n (if v1 < (M (this + 1) v2.toNat) then (M (this + 1) v2.toNat) else v1) (sd_w (v2 + 1)) M) else none)
set_option maxRecDepth 4000 in
theorem t_X3_lastDay_4 {X : Nat → List sd_V → List sd_E → sd_A → Prop} {d : Nat} (hd : 0 ≤ d) (this : Nat) (h_this : sd_o this 3) : ∀ (n : Nat) (v1 : Int) (v2 : Int) (M : sd_M) (Rr : Int × sd_M), f_X3_lastDay_4 this n v1 v2 M = some Rr → sd_B X d sd_q_X3_lastDay 4 [(0, .inr (.inr (some (this)))), (1, .inl (v1)), (2, .inl (v2))] [] M (some (.inl Rr.1), sd_rp Rr.2, 0, 0) := by
  intro n
  induction n with
  | zero => intro v1 v2 M Rr h; cases h
  | succ n ih =>
    intro v1 v2 M Rr h
    rw [f_X3_lastDay_4] at h
    refine sd_b_go 2 (pc2 := 6) (lv2 := [(0, .inr (.inr (some (this)))), (1, .inl (v1)), (2, .inl (v2))]) (st2 := [.inr (.inr (some (this))), .inl (v2)]) rfl ?_
    refine sd_b_gi (k := 0) h_this rfl rfl rfl ?_
    by_cases c1 : (M this 0) ≤ v2
    · rw [if_pos c1] at h
      refine sd_b_ct (c := .ge) (tgt := 29) rfl (decide_eq_true c1) (by decide) ?_
      refine sd_b_go 1 (pc2 := 30) (lv2 := [(0, .inr (.inr (some (this)))), (1, .inl (v1)), (2, .inl (v2))]) (st2 := [.inl (v1)]) rfl ?_
      cases h
      exact sd_b_rt rfl rfl rfl
    · rw [if_neg c1] at h
      refine sd_b_cf (c := .ge) rfl (decide_eq_false c1) (by decide) ?_
      refine sd_b_go 2 (pc2 := 14) (lv2 := [(0, .inr (.inr (some (this)))), (1, .inl (v1)), (2, .inl (v2))]) (st2 := [.inr (.inr (some (this))), .inl (v1)]) rfl ?_
      refine sd_b_gr (k := 1) h_this rfl rfl rfl ?_
      refine sd_b_go 1 (pc2 := 18) (lv2 := [(0, .inr (.inr (some (this)))), (1, .inl (v1)), (2, .inl (v2))]) (st2 := [.inl (v2), .inr (.inr (some (this + 1))), .inl (v1)]) rfl ?_
      obtain ⟨g2, h⟩ := sd_if h
      refine sd_b_ai (sd_oa h_this (by decide) (off := 1) (List.mem_of_getElem? (i := 0) rfl)) g2 rfl ?_
      refine sd_b_go 4 (pc2 := 4) (lv2 := [(2, .inl (sd_w (v2 + 1))), (1, .inl (if v1 < (M (this + 1) v2.toNat) then (M (this + 1) v2.toNat) else v1)), (0, .inr (.inr (some (this))))]) (st2 := []) rfl ?_
      refine sd_b_wk [(0, .inr (.inr (some (this)))), (1, .inl (if v1 < (M (this + 1) v2.toNat) then (M (this + 1) v2.toNat) else v1)), (2, .inl (sd_w (v2 + 1)))] (List.forall_mem_cons.mpr ⟨rfl, (List.forall_mem_cons.mpr ⟨rfl, (List.forall_mem_cons.mpr ⟨rfl, (fun _ h0 => absurd h0 List.not_mem_nil)⟩)⟩)⟩) ?_
      exact ih (if v1 < (M (this + 1) v2.toNat) then (M (this + 1) v2.toNat) else v1) (sd_w (v2 + 1)) M _ h
def f_X3_lastDay (this : Nat) (M : sd_M) : Option (Int × sd_M) := f_X3_lastDay_4 this 4000 ((-1)) 0 M
set_option maxRecDepth 4000 in
theorem t_X3_lastDay {X : Nat → List sd_V → List sd_E → sd_A → Prop} {d : Nat} (hd : 0 ≤ d) (this : Nat) (h_this : sd_o this 3) (M : sd_M) (Rr : Int × sd_M) (h : f_X3_lastDay this M = some Rr) : sd_B X d sd_q_X3_lastDay 0 [(0, .inr (.inr (some (this))))] [] M (some (.inl Rr.1), sd_rp Rr.2, 0, 0) := by
  unfold f_X3_lastDay at h
  refine sd_b_go 4 (pc2 := 4) (lv2 := [(2, .inl (0)), (1, .inl ((-1))), (0, .inr (.inr (some (this))))]) (st2 := []) rfl ?_
  refine sd_b_wk [(0, .inr (.inr (some (this)))), (1, .inl ((-1))), (2, .inl (0))] (List.forall_mem_cons.mpr ⟨rfl, (List.forall_mem_cons.mpr ⟨rfl, (List.forall_mem_cons.mpr ⟨rfl, (fun _ h0 => absurd h0 List.not_mem_nil)⟩)⟩)⟩) ?_
  exact t_X3_lastDay_4 hd this h_this 4000 ((-1)) 0 M _ h
theorem m_X3_lastDay {X : Nat → List sd_V → List sd_E → sd_A → Prop} {d : Nat} (hd : 1 ≤ d) {this : Nat} (h_this : sd_o this 3) {M : sd_M} {Rr : Int × sd_M} (h : f_X3_lastDay this M = some Rr) : sd_Cal X d 30 [.inr (.inr (some (this)))] (sd_rp M) (some (.inl Rr.1), sd_rp Rr.2, 0, 0) := by
  obtain ⟨d, rfl⟩ : ∃ d2, d = d2 + 1 := ⟨d - 1, by omega⟩
  exact sd_cal_of sd_i_X3_lastDay (Nat.le_of_ble_eq_true rfl) (t_X3_lastDay (by omega) this h_this M Rr h)
-- X3_allow
def sd_q_X3_allow : sd_MI := (yX3_allow, cX3_allow, 4, (some .boolean), 3, 2, sd_t_X3_allow)
set_option maxRecDepth 4000 in
theorem sd_i_X3_allow : sd_mL[31]? = some sd_q_X3_allow := rfl
def f_X3_allow_32 (k2 : Int → Int → Int → sd_M → Option (Int × sd_M)) (this : Nat) (v1 : Int) (v2 : Int) (v3 : Int) (M : sd_M) : Option (Int × sd_M) := k2 v1 v2 (sd_w (v3 + 1)) M
set_option maxRecDepth 4000 in
theorem t_X3_allow_32 {X : Nat → List sd_V → List sd_E → sd_A → Prop} {d : Nat} (hd : 0 ≤ d) (this : Nat) (h_this : sd_o this 3) (k2 : Int → Int → Int → sd_M → Option (Int × sd_M)) (hk2 : ∀ (v1 : Int) (v2 : Int) (v3 : Int) (M : sd_M) (Rr : Int × sd_M), k2 v1 v2 v3 M = some Rr → sd_B X d sd_q_X3_allow 2 [(0, .inr (.inr (some (this)))), (1, .inl (v1)), (2, .inl (v2)), (3, .inl (v3))] [] M (some (.inl Rr.1), sd_rp Rr.2, 0, 0)) (v1 : Int) (v2 : Int) (v3 : Int) (M : sd_M) (Rr : Int × sd_M) (h : f_X3_allow_32 k2 this v1 v2 v3 M = some Rr) : sd_B X d sd_q_X3_allow 32 [(0, .inr (.inr (some (this)))), (1, .inl (v1)), (2, .inl (v2)), (3, .inl (v3))] [] M (some (.inl Rr.1), sd_rp Rr.2, 0, 0) := by
  unfold f_X3_allow_32 at h
  refine sd_b_go 2 (pc2 := 2) (lv2 := [(3, .inl (sd_w (v3 + 1))), (0, .inr (.inr (some (this)))), (1, .inl (v1)), (2, .inl (v2))]) (st2 := []) rfl ?_
  refine sd_b_wk [(0, .inr (.inr (some (this)))), (1, .inl (v1)), (2, .inl (v2)), (3, .inl (sd_w (v3 + 1)))] (List.forall_mem_cons.mpr ⟨rfl, (List.forall_mem_cons.mpr ⟨rfl, (List.forall_mem_cons.mpr ⟨rfl, (List.forall_mem_cons.mpr ⟨rfl, (fun _ h0 => absurd h0 List.not_mem_nil)⟩)⟩)⟩)⟩) ?_
  exact hk2 v1 v2 (sd_w (v3 + 1)) M _ h
def f_X3_allow_2 (this : Nat) : Nat → Int → Int → Int → sd_M → Option (Int × sd_M)
  | 0, _, _, _, _ => none
  | n + 1, v1, v2, v3, M => if (M this 0) ≤ v3 then (some (1, M)) else (if 0 ≤ v3 ∧ v3 < 10 then (if (M (this + 1) v3.toNat) = v1 then (if 0 ≤ v3 ∧ v3 < 10 then (if (M (this + 2) v3.toNat) = v2 then (f_X3_allow_32 (f_X3_allow_2 this n) this v1 v2 v3 M) else (some (0, M))) else none) else (f_X3_allow_32 (f_X3_allow_2 this n) this v1 v2 v3 M)) else none)
set_option maxRecDepth 4000 in
theorem t_X3_allow_2 {X : Nat → List sd_V → List sd_E → sd_A → Prop} {d : Nat} (hd : 0 ≤ d) (this : Nat) (h_this : sd_o this 3) : ∀ (n : Nat) (v1 : Int) (v2 : Int) (v3 : Int) (M : sd_M) (Rr : Int × sd_M), f_X3_allow_2 this n v1 v2 v3 M = some Rr → sd_B X d sd_q_X3_allow 2 [(0, .inr (.inr (some (this)))), (1, .inl (v1)), (2, .inl (v2)), (3, .inl (v3))] [] M (some (.inl Rr.1), sd_rp Rr.2, 0, 0) := by
  intro n
  induction n with
  | zero => intro v1 v2 v3 M Rr h; cases h
  | succ n ih =>
    intro v1 v2 v3 M Rr h
    rw [f_X3_allow_2] at h
    refine sd_b_go 2 (pc2 := 4) (lv2 := [(0, .inr (.inr (some (this)))), (1, .inl (v1)), (2, .inl (v2)), (3, .inl (v3))]) (st2 := [.inr (.inr (some (this))), .inl (v3)]) rfl ?_
    refine sd_b_gi (k := 0) h_this rfl rfl rfl ?_
    by_cases c1 : (M this 0) ≤ v3
    · rw [if_pos c1] at h
      refine sd_b_ct (c := .ge) (tgt := 38) rfl (decide_eq_true c1) (by decide) ?_
      refine sd_b_go 1 (pc2 := 39) (lv2 := [(0, .inr (.inr (some (this)))), (1, .inl (v1)), (2, .inl (v2)), (3, .inl (v3))]) (st2 := [.inl (1)]) rfl ?_
      cases h
      exact sd_b_rt rfl rfl rfl
    · rw [if_neg c1] at h
      refine sd_b_cf (c := .ge) rfl (decide_eq_false c1) (by decide) ?_
      refine sd_b_go 1 (pc2 := 11) (lv2 := [(0, .inr (.inr (some (this)))), (1, .inl (v1)), (2, .inl (v2)), (3, .inl (v3))]) (st2 := [.inr (.inr (some (this)))]) rfl ?_
      refine sd_b_gr (k := 1) h_this rfl rfl rfl ?_
      refine sd_b_go 1 (pc2 := 15) (lv2 := [(0, .inr (.inr (some (this)))), (1, .inl (v1)), (2, .inl (v2)), (3, .inl (v3))]) (st2 := [.inl (v3), .inr (.inr (some (this + 1)))]) rfl ?_
      obtain ⟨g2, h⟩ := sd_if h
      refine sd_b_ai (sd_oa h_this (by decide) (off := 1) (List.mem_of_getElem? (i := 0) rfl)) g2 rfl ?_
      refine sd_b_go 1 (pc2 := 17) (lv2 := [(0, .inr (.inr (some (this)))), (1, .inl (v1)), (2, .inl (v2)), (3, .inl (v3))]) (st2 := [.inl (v1), .inl (M (this + 1) v3.toNat)]) rfl ?_
      by_cases c3 : (M (this + 1) v3.toNat) = v1
      · rw [if_pos c3] at h
        refine sd_b_cf (c := .ne) rfl (decide_eq_false (not_not_intro c3)) (by decide) ?_
        refine sd_b_go 1 (pc2 := 21) (lv2 := [(0, .inr (.inr (some (this)))), (1, .inl (v1)), (2, .inl (v2)), (3, .inl (v3))]) (st2 := [.inr (.inr (some (this)))]) rfl ?_
        refine sd_b_gr (k := 2) h_this rfl rfl rfl ?_
        refine sd_b_go 1 (pc2 := 25) (lv2 := [(0, .inr (.inr (some (this)))), (1, .inl (v1)), (2, .inl (v2)), (3, .inl (v3))]) (st2 := [.inl (v3), .inr (.inr (some (this + 2)))]) rfl ?_
        obtain ⟨g4, h⟩ := sd_if h
        refine sd_b_ai (sd_oa h_this (by decide) (off := 2) (List.mem_of_getElem? (i := 1) rfl)) g4 rfl ?_
        refine sd_b_go 1 (pc2 := 27) (lv2 := [(0, .inr (.inr (some (this)))), (1, .inl (v1)), (2, .inl (v2)), (3, .inl (v3))]) (st2 := [.inl (v2), .inl (M (this + 2) v3.toNat)]) rfl ?_
        by_cases c5 : (M (this + 2) v3.toNat) = v2
        · rw [if_pos c5] at h
          refine sd_b_ct (c := .eq) (tgt := 32) rfl (decide_eq_true c5) (by decide) ?_
          refine sd_b_wk [(0, .inr (.inr (some (this)))), (1, .inl (v1)), (2, .inl (v2)), (3, .inl (v3))] (List.forall_mem_cons.mpr ⟨rfl, (List.forall_mem_cons.mpr ⟨rfl, (List.forall_mem_cons.mpr ⟨rfl, (List.forall_mem_cons.mpr ⟨rfl, (fun _ h0 => absurd h0 List.not_mem_nil)⟩)⟩)⟩)⟩) ?_
          exact t_X3_allow_32 hd this h_this (f_X3_allow_2 this n) ih v1 v2 v3 M _ h
        · rw [if_neg c5] at h
          refine sd_b_cf (c := .eq) rfl (decide_eq_false c5) (by decide) ?_
          refine sd_b_go 1 (pc2 := 31) (lv2 := [(0, .inr (.inr (some (this)))), (1, .inl (v1)), (2, .inl (v2)), (3, .inl (v3))]) (st2 := [.inl (0)]) rfl ?_
          cases h
          exact sd_b_rt rfl rfl rfl
      · rw [if_neg c3] at h
        refine sd_b_ct (c := .ne) (tgt := 32) rfl (decide_eq_true c3) (by decide) ?_
        refine sd_b_wk [(0, .inr (.inr (some (this)))), (1, .inl (v1)), (2, .inl (v2)), (3, .inl (v3))] (List.forall_mem_cons.mpr ⟨rfl, (List.forall_mem_cons.mpr ⟨rfl, (List.forall_mem_cons.mpr ⟨rfl, (List.forall_mem_cons.mpr ⟨rfl, (fun _ h0 => absurd h0 List.not_mem_nil)⟩)⟩)⟩)⟩) ?_
        exact t_X3_allow_32 hd this h_this (f_X3_allow_2 this n) ih v1 v2 v3 M _ h
def f_X3_allow (this : Nat) (p1 : Int) (p2 : Int) (M : sd_M) : Option (Int × sd_M) := f_X3_allow_2 this 4000 p1 p2 0 M
set_option maxRecDepth 4000 in
theorem t_X3_allow {X : Nat → List sd_V → List sd_E → sd_A → Prop} {d : Nat} (hd : 0 ≤ d) (this : Nat) (h_this : sd_o this 3) (p1 : Int) (p2 : Int) (M : sd_M) (Rr : Int × sd_M) (h : f_X3_allow this p1 p2 M = some Rr) : sd_B X d sd_q_X3_allow 0 [(0, .inr (.inr (some (this)))), (1, .inl (p1)), (2, .inl (p2))] [] M (some (.inl Rr.1), sd_rp Rr.2, 0, 0) := by
  unfold f_X3_allow at h
  refine sd_b_go 2 (pc2 := 2) (lv2 := [(3, .inl (0)), (0, .inr (.inr (some (this)))), (1, .inl (p1)), (2, .inl (p2))]) (st2 := []) rfl ?_
  refine sd_b_wk [(0, .inr (.inr (some (this)))), (1, .inl (p1)), (2, .inl (p2)), (3, .inl (0))] (List.forall_mem_cons.mpr ⟨rfl, (List.forall_mem_cons.mpr ⟨rfl, (List.forall_mem_cons.mpr ⟨rfl, (List.forall_mem_cons.mpr ⟨rfl, (fun _ h0 => absurd h0 List.not_mem_nil)⟩)⟩)⟩)⟩) ?_
  exact t_X3_allow_2 hd this h_this 4000 p1 p2 0 M _ h
theorem m_X3_allow {X : Nat → List sd_V → List sd_E → sd_A → Prop} {d : Nat} (hd : 1 ≤ d) {this : Nat} (h_this : sd_o this 3) {p1 : Int} {p2 : Int} {M : sd_M} {Rr : Int × sd_M} (h : f_X3_allow this p1 p2 M = some Rr) : sd_Cal X d 31 [.inr (.inr (some (this))), .inl (p1), .inl (p2)] (sd_rp M) (some (.inl Rr.1), sd_rp Rr.2, 0, 0) := by
  obtain ⟨d, rfl⟩ : ∃ d2, d = d2 + 1 := ⟨d - 1, by omega⟩
  exact sd_cal_of sd_i_X3_allow (Nat.le_of_ble_eq_true rfl) (t_X3_allow (by omega) this h_this p1 p2 M Rr h)
-- X4_clear
def sd_q_X4_clear : sd_MI := (yX4_clear, cX4_clear, 1, none, 4, 0, sd_t_X4_clear)
set_option maxRecDepth 4000 in
theorem sd_i_X4_clear : sd_mL[33]? = some sd_q_X4_clear := rfl
def f_X4_clear (this : Nat) (M : sd_M) : Option (Int × sd_M) := some (0, sd_s (sd_s M this 0 0) this 1 0)
set_option maxRecDepth 4000 in
theorem t_X4_clear {X : Nat → List sd_V → List sd_E → sd_A → Prop} {d : Nat} (hd : 0 ≤ d) (this : Nat) (h_this : sd_o this 4) (M : sd_M) (Rr : Int × sd_M) (h : f_X4_clear this M = some Rr) : sd_B X d sd_q_X4_clear 0 [(0, .inr (.inr (some (this))))] [] M (none, sd_rp Rr.2, 0, 0) := by
  unfold f_X4_clear at h
  refine sd_b_go 2 (pc2 := 2) (lv2 := [(0, .inr (.inr (some (this))))]) (st2 := [.inl (0), .inr (.inr (some (this)))]) rfl ?_
  refine sd_b_pi (k := 0) h_this rfl rfl rfl rfl rfl ?_
  refine sd_b_go 2 (pc2 := 7) (lv2 := [(0, .inr (.inr (some (this))))]) (st2 := [.inl (0), .inr (.inr (some (this)))]) rfl ?_
  refine sd_b_pi (k := 1) h_this rfl rfl rfl rfl rfl ?_
  cases h
  exact sd_b_rt rfl rfl rfl
theorem m_X4_clear {X : Nat → List sd_V → List sd_E → sd_A → Prop} {d : Nat} (hd : 1 ≤ d) {this : Nat} (h_this : sd_o this 4) {M : sd_M} {Rr : Int × sd_M} (h : f_X4_clear this M = some Rr) : sd_Cal X d 33 [.inr (.inr (some (this)))] (sd_rp M) (none, sd_rp Rr.2, 0, 0) := by
  obtain ⟨d, rfl⟩ : ∃ d2, d = d2 + 1 := ⟨d - 1, by omega⟩
  exact sd_cal_of sd_i_X4_clear (Nat.le_of_ble_eq_true rfl) (t_X4_clear (by omega) this h_this M Rr h)
-- X4_add
def sd_q_X4_add : sd_MI := (yX4_add, cX4_add, 3, none, 4, 2, sd_t_X4_add)
set_option maxRecDepth 4000 in
theorem sd_i_X4_add : sd_mL[34]? = some sd_q_X4_add := rfl
def f_X4_add (this : Nat) (p1 : Int) (p2 : Int) (M : sd_M) : Option (Int × sd_M) := if 400 ≤ (M this 1) then (some (0, M)) else (if 0 ≤ (M this 1) ∧ (M this 1) < 400 then (if 0 ≤ (sd_s M (this + 4) (M this 1).toNat p1 this 1) ∧ (sd_s M (this + 4) (M this 1).toNat p1 this 1) < 400 then (some (0, sd_s (sd_s (sd_s M (this + 4) (M this 1).toNat p1) (this + 5) (sd_s M (this + 4) (M this 1).toNat p1 this 1).toNat p2) this 1 (sd_w ((sd_s (sd_s M (this + 4) (M this 1).toNat p1) (this + 5) (sd_s M (this + 4) (M this 1).toNat p1 this 1).toNat p2 this 1) + 1)))) else none) else none)
set_option maxRecDepth 4000 in
theorem t_X4_add {X : Nat → List sd_V → List sd_E → sd_A → Prop} {d : Nat} (hd : 0 ≤ d) (this : Nat) (h_this : sd_o this 4) (p1 : Int) (p2 : Int) (M : sd_M) (Rr : Int × sd_M) (h : f_X4_add this p1 p2 M = some Rr) : sd_B X d sd_q_X4_add 0 [(0, .inr (.inr (some (this)))), (1, .inl (p1)), (2, .inl (p2))] [] M (none, sd_rp Rr.2, 0, 0) := by
  unfold f_X4_add at h
  refine sd_b_go 1 (pc2 := 1) (lv2 := [(0, .inr (.inr (some (this)))), (1, .inl (p1)), (2, .inl (p2))]) (st2 := [.inr (.inr (some (this)))]) rfl ?_
  refine sd_b_gi (k := 1) h_this rfl rfl rfl ?_
  refine sd_b_go 1 (pc2 := 7) (lv2 := [(0, .inr (.inr (some (this)))), (1, .inl (p1)), (2, .inl (p2))]) (st2 := [.inl (400), .inl (M this 1)]) rfl ?_
  by_cases c1 : 400 ≤ (M this 1)
  · rw [if_pos c1] at h
    refine sd_b_ct (c := .ge) (tgt := 40) rfl (decide_eq_true c1) (by decide) ?_
    cases h
    exact sd_b_rt rfl rfl rfl
  · rw [if_neg c1] at h
    refine sd_b_cf (c := .ge) rfl (decide_eq_false c1) (by decide) ?_
    refine sd_b_go 1 (pc2 := 11) (lv2 := [(0, .inr (.inr (some (this)))), (1, .inl (p1)), (2, .inl (p2))]) (st2 := [.inr (.inr (some (this)))]) rfl ?_
    refine sd_b_gr (k := 5) h_this rfl rfl rfl ?_
    refine sd_b_go 1 (pc2 := 15) (lv2 := [(0, .inr (.inr (some (this)))), (1, .inl (p1)), (2, .inl (p2))]) (st2 := [.inr (.inr (some (this))), .inr (.inr (some (this + 4)))]) rfl ?_
    refine sd_b_gi (k := 1) h_this rfl rfl rfl ?_
    refine sd_b_go 1 (pc2 := 19) (lv2 := [(0, .inr (.inr (some (this)))), (1, .inl (p1)), (2, .inl (p2))]) (st2 := [.inl (p1), .inl (M this 1), .inr (.inr (some (this + 4)))]) rfl ?_
    obtain ⟨g2, h⟩ := sd_if h
    refine sd_b_si (sd_oa h_this (by decide) (off := 4) (List.mem_of_getElem? (i := 3) rfl)) g2 rfl ?_
    refine sd_b_go 1 (pc2 := 21) (lv2 := [(0, .inr (.inr (some (this)))), (1, .inl (p1)), (2, .inl (p2))]) (st2 := [.inr (.inr (some (this)))]) rfl ?_
    refine sd_b_gr (k := 6) h_this rfl rfl rfl ?_
    refine sd_b_go 1 (pc2 := 25) (lv2 := [(0, .inr (.inr (some (this)))), (1, .inl (p1)), (2, .inl (p2))]) (st2 := [.inr (.inr (some (this))), .inr (.inr (some (this + 5)))]) rfl ?_
    refine sd_b_gi (k := 1) h_this rfl rfl rfl ?_
    refine sd_b_go 1 (pc2 := 29) (lv2 := [(0, .inr (.inr (some (this)))), (1, .inl (p1)), (2, .inl (p2))]) (st2 := [.inl (p2), .inl (sd_s M (this + 4) (M this 1).toNat p1 this 1), .inr (.inr (some (this + 5)))]) rfl ?_
    obtain ⟨g3, h⟩ := sd_if h
    refine sd_b_si (sd_oa h_this (by decide) (off := 5) (List.mem_of_getElem? (i := 4) rfl)) g3 rfl ?_
    refine sd_b_go 2 (pc2 := 32) (lv2 := [(0, .inr (.inr (some (this)))), (1, .inl (p1)), (2, .inl (p2))]) (st2 := [.inr (.inr (some (this))), .inr (.inr (some (this)))]) rfl ?_
    refine sd_b_gi (k := 1) h_this rfl rfl rfl ?_
    refine sd_b_go 2 (pc2 := 37) (lv2 := [(0, .inr (.inr (some (this)))), (1, .inl (p1)), (2, .inl (p2))]) (st2 := [.inl (sd_w ((sd_s (sd_s M (this + 4) (M this 1).toNat p1) (this + 5) (sd_s M (this + 4) (M this 1).toNat p1 this 1).toNat p2 this 1) + 1)), .inr (.inr (some (this)))]) rfl ?_
    refine sd_b_pi (k := 1) h_this rfl rfl rfl rfl rfl ?_
    cases h
    exact sd_b_rt rfl rfl rfl
theorem m_X4_add {X : Nat → List sd_V → List sd_E → sd_A → Prop} {d : Nat} (hd : 1 ≤ d) {this : Nat} (h_this : sd_o this 4) {p1 : Int} {p2 : Int} {M : sd_M} {Rr : Int × sd_M} (h : f_X4_add this p1 p2 M = some Rr) : sd_Cal X d 34 [.inr (.inr (some (this))), .inl (p1), .inl (p2)] (sd_rp M) (none, sd_rp Rr.2, 0, 0) := by
  obtain ⟨d, rfl⟩ : ∃ d2, d = d2 + 1 := ⟨d - 1, by omega⟩
  exact sd_cal_of sd_i_X4_add (Nat.le_of_ble_eq_true rfl) (t_X4_add (by omega) this h_this p1 p2 M Rr h)
-- X4_addClause
def sd_q_X4_addClause : sd_MI := (yX4_addClause, cX4_addClause, 3, none, 4, 2, sd_t_X4_addClause)
set_option maxRecDepth 4000 in
theorem sd_i_X4_addClause : sd_mL[35]? = some sd_q_X4_addClause := rfl
def f_X4_addClause (this : Nat) (p1 : Int) (p2 : Int) (M : sd_M) : Option (Int × sd_M) := if 12 ≤ (M this 0) then (some (0, M)) else (if 0 ≤ (M this 0) ∧ (M this 0) < 12 then (if 0 ≤ (sd_s M (this + 1) (M this 0).toNat p1 this 0) ∧ (sd_s M (this + 1) (M this 0).toNat p1 this 0) < 12 then (if 0 ≤ (sd_s (sd_s M (this + 1) (M this 0).toNat p1) (this + 2) (sd_s M (this + 1) (M this 0).toNat p1 this 0).toNat p2 this 0) ∧ (sd_s (sd_s M (this + 1) (M this 0).toNat p1) (this + 2) (sd_s M (this + 1) (M this 0).toNat p1 this 0).toNat p2 this 0) < 12 then (some (0, sd_s (sd_s (sd_s (sd_s M (this + 1) (M this 0).toNat p1) (this + 2) (sd_s M (this + 1) (M this 0).toNat p1 this 0).toNat p2) (this + 3) (sd_s (sd_s M (this + 1) (M this 0).toNat p1) (this + 2) (sd_s M (this + 1) (M this 0).toNat p1 this 0).toNat p2 this 0).toNat (sd_s (sd_s M (this + 1) (M this 0).toNat p1) (this + 2) (sd_s M (this + 1) (M this 0).toNat p1 this 0).toNat p2 this 1)) this 0 (sd_w ((sd_s (sd_s (sd_s M (this + 1) (M this 0).toNat p1) (this + 2) (sd_s M (this + 1) (M this 0).toNat p1 this 0).toNat p2) (this + 3) (sd_s (sd_s M (this + 1) (M this 0).toNat p1) (this + 2) (sd_s M (this + 1) (M this 0).toNat p1 this 0).toNat p2 this 0).toNat (sd_s (sd_s M (this + 1) (M this 0).toNat p1) (this + 2) (sd_s M (this + 1) (M this 0).toNat p1 this 0).toNat p2 this 1) this 0) + 1)))) else none) else none) else none)
set_option maxRecDepth 4000 in
theorem t_X4_addClause {X : Nat → List sd_V → List sd_E → sd_A → Prop} {d : Nat} (hd : 0 ≤ d) (this : Nat) (h_this : sd_o this 4) (p1 : Int) (p2 : Int) (M : sd_M) (Rr : Int × sd_M) (h : f_X4_addClause this p1 p2 M = some Rr) : sd_B X d sd_q_X4_addClause 0 [(0, .inr (.inr (some (this)))), (1, .inl (p1)), (2, .inl (p2))] [] M (none, sd_rp Rr.2, 0, 0) := by
  unfold f_X4_addClause at h
  refine sd_b_go 1 (pc2 := 1) (lv2 := [(0, .inr (.inr (some (this)))), (1, .inl (p1)), (2, .inl (p2))]) (st2 := [.inr (.inr (some (this)))]) rfl ?_
  refine sd_b_gi (k := 0) h_this rfl rfl rfl ?_
  refine sd_b_go 1 (pc2 := 6) (lv2 := [(0, .inr (.inr (some (this)))), (1, .inl (p1)), (2, .inl (p2))]) (st2 := [.inl (12), .inl (M this 0)]) rfl ?_
  by_cases c1 : 12 ≤ (M this 0)
  · rw [if_pos c1] at h
    refine sd_b_ct (c := .ge) (tgt := 52) rfl (decide_eq_true c1) (by decide) ?_
    cases h
    exact sd_b_rt rfl rfl rfl
  · rw [if_neg c1] at h
    refine sd_b_cf (c := .ge) rfl (decide_eq_false c1) (by decide) ?_
    refine sd_b_go 1 (pc2 := 10) (lv2 := [(0, .inr (.inr (some (this)))), (1, .inl (p1)), (2, .inl (p2))]) (st2 := [.inr (.inr (some (this)))]) rfl ?_
    refine sd_b_gr (k := 2) h_this rfl rfl rfl ?_
    refine sd_b_go 1 (pc2 := 14) (lv2 := [(0, .inr (.inr (some (this)))), (1, .inl (p1)), (2, .inl (p2))]) (st2 := [.inr (.inr (some (this))), .inr (.inr (some (this + 1)))]) rfl ?_
    refine sd_b_gi (k := 0) h_this rfl rfl rfl ?_
    refine sd_b_go 1 (pc2 := 18) (lv2 := [(0, .inr (.inr (some (this)))), (1, .inl (p1)), (2, .inl (p2))]) (st2 := [.inl (p1), .inl (M this 0), .inr (.inr (some (this + 1)))]) rfl ?_
    obtain ⟨g2, h⟩ := sd_if h
    refine sd_b_si (sd_oa h_this (by decide) (off := 1) (List.mem_of_getElem? (i := 0) rfl)) g2 rfl ?_
    refine sd_b_go 1 (pc2 := 20) (lv2 := [(0, .inr (.inr (some (this)))), (1, .inl (p1)), (2, .inl (p2))]) (st2 := [.inr (.inr (some (this)))]) rfl ?_
    refine sd_b_gr (k := 3) h_this rfl rfl rfl ?_
    refine sd_b_go 1 (pc2 := 24) (lv2 := [(0, .inr (.inr (some (this)))), (1, .inl (p1)), (2, .inl (p2))]) (st2 := [.inr (.inr (some (this))), .inr (.inr (some (this + 2)))]) rfl ?_
    refine sd_b_gi (k := 0) h_this rfl rfl rfl ?_
    refine sd_b_go 1 (pc2 := 28) (lv2 := [(0, .inr (.inr (some (this)))), (1, .inl (p1)), (2, .inl (p2))]) (st2 := [.inl (p2), .inl (sd_s M (this + 1) (M this 0).toNat p1 this 0), .inr (.inr (some (this + 2)))]) rfl ?_
    obtain ⟨g3, h⟩ := sd_if h
    refine sd_b_si (sd_oa h_this (by decide) (off := 2) (List.mem_of_getElem? (i := 1) rfl)) g3 rfl ?_
    refine sd_b_go 1 (pc2 := 30) (lv2 := [(0, .inr (.inr (some (this)))), (1, .inl (p1)), (2, .inl (p2))]) (st2 := [.inr (.inr (some (this)))]) rfl ?_
    refine sd_b_gr (k := 4) h_this rfl rfl rfl ?_
    refine sd_b_go 1 (pc2 := 34) (lv2 := [(0, .inr (.inr (some (this)))), (1, .inl (p1)), (2, .inl (p2))]) (st2 := [.inr (.inr (some (this))), .inr (.inr (some (this + 3)))]) rfl ?_
    refine sd_b_gi (k := 0) h_this rfl rfl rfl ?_
    refine sd_b_go 1 (pc2 := 38) (lv2 := [(0, .inr (.inr (some (this)))), (1, .inl (p1)), (2, .inl (p2))]) (st2 := [.inr (.inr (some (this))), .inl (sd_s (sd_s M (this + 1) (M this 0).toNat p1) (this + 2) (sd_s M (this + 1) (M this 0).toNat p1 this 0).toNat p2 this 0), .inr (.inr (some (this + 3)))]) rfl ?_
    refine sd_b_gi (k := 1) h_this rfl rfl rfl ?_
    obtain ⟨g4, h⟩ := sd_if h
    refine sd_b_si (sd_oa h_this (by decide) (off := 3) (List.mem_of_getElem? (i := 2) rfl)) g4 rfl ?_
    refine sd_b_go 2 (pc2 := 44) (lv2 := [(0, .inr (.inr (some (this)))), (1, .inl (p1)), (2, .inl (p2))]) (st2 := [.inr (.inr (some (this))), .inr (.inr (some (this)))]) rfl ?_
    refine sd_b_gi (k := 0) h_this rfl rfl rfl ?_
    refine sd_b_go 2 (pc2 := 49) (lv2 := [(0, .inr (.inr (some (this)))), (1, .inl (p1)), (2, .inl (p2))]) (st2 := [.inl (sd_w ((sd_s (sd_s (sd_s M (this + 1) (M this 0).toNat p1) (this + 2) (sd_s M (this + 1) (M this 0).toNat p1 this 0).toNat p2) (this + 3) (sd_s (sd_s M (this + 1) (M this 0).toNat p1) (this + 2) (sd_s M (this + 1) (M this 0).toNat p1 this 0).toNat p2 this 0).toNat (sd_s (sd_s M (this + 1) (M this 0).toNat p1) (this + 2) (sd_s M (this + 1) (M this 0).toNat p1 this 0).toNat p2 this 1) this 0) + 1)), .inr (.inr (some (this)))]) rfl ?_
    refine sd_b_pi (k := 0) h_this rfl rfl rfl rfl rfl ?_
    cases h
    exact sd_b_rt rfl rfl rfl
theorem m_X4_addClause {X : Nat → List sd_V → List sd_E → sd_A → Prop} {d : Nat} (hd : 1 ≤ d) {this : Nat} (h_this : sd_o this 4) {p1 : Int} {p2 : Int} {M : sd_M} {Rr : Int × sd_M} (h : f_X4_addClause this p1 p2 M = some Rr) : sd_Cal X d 35 [.inr (.inr (some (this))), .inl (p1), .inl (p2)] (sd_rp M) (none, sd_rp Rr.2, 0, 0) := by
  obtain ⟨d, rfl⟩ : ∃ d2, d = d2 + 1 := ⟨d - 1, by omega⟩
  exact sd_cal_of sd_i_X4_addClause (Nat.le_of_ble_eq_true rfl) (t_X4_addClause (by omega) this h_this p1 p2 M Rr h)
-- X4_reckon
def sd_q_X4_reckon : sd_MI := (yX4_reckon, cX4_reckon, 5, (some .long), 4, 3, sd_t_X4_reckon)
set_option maxRecDepth 4000 in
theorem sd_i_X4_reckon : sd_mL[38]? = some sd_q_X4_reckon := rfl
def f_X4_reckon (p0 : Int) (p1 : Int) (p2 : Int) (M : sd_M) : Option (Int × sd_M) := if p0 = 2 then (some (sd_wl (p1 + p2), M)) else (if p0 = 3 then (some (sd_wl (p1 - p2), M)) else (if p0 = 4 then (some (sd_wl (p1 * p2), M)) else (if p0 = 5 then (if (sd_cmpl p2 0) = 0 then (some (0, M)) else (if p2 ≠ 0 then (some (sd_wl (Int.tdiv p1 p2), M)) else none)) else (if (sd_cmpl p2 0) = 0 then (some (0, M)) else (if p2 ≠ 0 then (some (Int.tmod p1 p2, M)) else none)))))
set_option maxRecDepth 4000 in
theorem t_X4_reckon {X : Nat → List sd_V → List sd_E → sd_A → Prop} {d : Nat} (hd : 0 ≤ d) (p0 : Int) (p1 : Int) (p2 : Int) (M : sd_M) (Rr : Int × sd_M) (h : f_X4_reckon p0 p1 p2 M = some Rr) : sd_B X d sd_q_X4_reckon 0 [(0, .inl (p0)), (1, .inr (.inl (p1))), (3, .inr (.inl (p2)))] [] M (some (.inr (.inl Rr.1)), sd_rp Rr.2, 0, 0) := by
  unfold f_X4_reckon at h
  refine sd_b_go 1 (pc2 := 1) (lv2 := [(0, .inl (p0)), (1, .inr (.inl (p1))), (3, .inr (.inl (p2)))]) (st2 := [.inl (p0)]) rfl ?_
  by_cases c1 : p0 = 2
  · rw [if_pos c1] at h
    refine sd_b_eq c1 ?_
    refine sd_b_go 1 (pc2 := 32) (lv2 := [(0, .inl (p0)), (1, .inr (.inl (p1))), (3, .inr (.inl (p2)))]) (st2 := []) rfl ?_
    refine sd_b_go 3 (pc2 := 35) (lv2 := [(0, .inl (p0)), (1, .inr (.inl (p1))), (3, .inr (.inl (p2)))]) (st2 := [.inr (.inl (sd_wl (p1 + p2)))]) rfl ?_
    cases h
    exact sd_b_rt rfl rfl rfl
  · rw [if_neg c1] at h
    by_cases c2 : p0 = 3
    · rw [if_pos c2] at h
      refine sd_b_eq c2 ?_
      refine sd_b_go 1 (pc2 := 36) (lv2 := [(0, .inl (p0)), (1, .inr (.inl (p1))), (3, .inr (.inl (p2)))]) (st2 := []) rfl ?_
      refine sd_b_go 3 (pc2 := 39) (lv2 := [(0, .inl (p0)), (1, .inr (.inl (p1))), (3, .inr (.inl (p2)))]) (st2 := [.inr (.inl (sd_wl (p1 - p2)))]) rfl ?_
      cases h
      exact sd_b_rt rfl rfl rfl
    · rw [if_neg c2] at h
      by_cases c3 : p0 = 4
      · rw [if_pos c3] at h
        refine sd_b_eq c3 ?_
        refine sd_b_go 1 (pc2 := 40) (lv2 := [(0, .inl (p0)), (1, .inr (.inl (p1))), (3, .inr (.inl (p2)))]) (st2 := []) rfl ?_
        refine sd_b_go 3 (pc2 := 43) (lv2 := [(0, .inl (p0)), (1, .inr (.inl (p1))), (3, .inr (.inl (p2)))]) (st2 := [.inr (.inl (sd_wl (p1 * p2)))]) rfl ?_
        cases h
        exact sd_b_rt rfl rfl rfl
      · rw [if_neg c3] at h
        by_cases c4 : p0 = 5
        · rw [if_pos c4] at h
          refine sd_b_eq c4 ?_
          refine sd_b_go 1 (pc2 := 44) (lv2 := [(0, .inl (p0)), (1, .inr (.inl (p1))), (3, .inr (.inl (p2)))]) (st2 := []) rfl ?_
          refine sd_b_go 3 (pc2 := 47) (lv2 := [(0, .inl (p0)), (1, .inr (.inl (p1))), (3, .inr (.inl (p2)))]) (st2 := [.inl (sd_cmpl p2 0)]) rfl ?_
          by_cases c5 : (sd_cmpl p2 0) = 0
          · rw [if_pos c5] at h
            refine sd_b_zf (c := .ne) rfl (decide_eq_false (not_not_intro c5)) (by decide) ?_
            refine sd_b_go 2 (pc2 := 57) (lv2 := [(0, .inl (p0)), (1, .inr (.inl (p1))), (3, .inr (.inl (p2)))]) (st2 := [.inr (.inl (0))]) rfl ?_
            cases h
            exact sd_b_rt rfl rfl rfl
          · rw [if_neg c5] at h
            refine sd_b_zt (c := .ne) (tgt := 54) rfl (decide_eq_true c5) (by decide) ?_
            refine sd_b_go 2 (pc2 := 56) (lv2 := [(0, .inl (p0)), (1, .inr (.inl (p1))), (3, .inr (.inl (p2)))]) (st2 := [.inr (.inl (p2)), .inr (.inl (p1))]) rfl ?_
            obtain ⟨g6, h⟩ := sd_if h
            refine sd_b_ldz g6 rfl ?_
            cases h
            exact sd_b_rt rfl rfl rfl
        · rw [if_neg c4] at h
          refine sd_b_td (tgt := 58) rfl (by omega) (by decide) ?_
          refine sd_b_go 3 (pc2 := 61) (lv2 := [(0, .inl (p0)), (1, .inr (.inl (p1))), (3, .inr (.inl (p2)))]) (st2 := [.inl (sd_cmpl p2 0)]) rfl ?_
          by_cases c7 : (sd_cmpl p2 0) = 0
          · rw [if_pos c7] at h
            refine sd_b_zf (c := .ne) rfl (decide_eq_false (not_not_intro c7)) (by decide) ?_
            refine sd_b_go 2 (pc2 := 71) (lv2 := [(0, .inl (p0)), (1, .inr (.inl (p1))), (3, .inr (.inl (p2)))]) (st2 := [.inr (.inl (0))]) rfl ?_
            cases h
            exact sd_b_rt rfl rfl rfl
          · rw [if_neg c7] at h
            refine sd_b_zt (c := .ne) (tgt := 68) rfl (decide_eq_true c7) (by decide) ?_
            refine sd_b_go 2 (pc2 := 70) (lv2 := [(0, .inl (p0)), (1, .inr (.inl (p1))), (3, .inr (.inl (p2)))]) (st2 := [.inr (.inl (p2)), .inr (.inl (p1))]) rfl ?_
            obtain ⟨g8, h⟩ := sd_if h
            refine sd_b_lmz g8 rfl ?_
            cases h
            exact sd_b_rt rfl rfl rfl
theorem m_X4_reckon {X : Nat → List sd_V → List sd_E → sd_A → Prop} {d : Nat} (hd : 1 ≤ d) {p0 : Int} {p1 : Int} {p2 : Int} {M : sd_M} {Rr : Int × sd_M} (h : f_X4_reckon p0 p1 p2 M = some Rr) : sd_Cal X d 38 [.inl (p0), .inr (.inl (p1)), .inr (.inl (p2))] (sd_rp M) (some (.inr (.inl Rr.1)), sd_rp Rr.2, 0, 0) := by
  obtain ⟨d, rfl⟩ : ∃ d2, d = d2 + 1 := ⟨d - 1, by omega⟩
  exact sd_cal_of sd_i_X4_reckon (Nat.le_of_ble_eq_true rfl) (t_X4_reckon (by omega) p0 p1 p2 M Rr h)
-- X4_truth
def sd_q_X4_truth : sd_MI := (yX4_truth, cX4_truth, 6, (some .long), 4, 3, sd_t_X4_truth)
set_option maxRecDepth 4000 in
theorem sd_i_X4_truth : sd_mL[39]? = some sd_q_X4_truth := rfl
def f_X4_truth_161 (v5 : Int) (M : sd_M) : Option (Int × sd_M) := if v5 = 0 then (some (0, M)) else (some (1, M))
set_option maxRecDepth 4000 in
theorem t_X4_truth_161 {X : Nat → List sd_V → List sd_E → sd_A → Prop} {d : Nat} (hd : 0 ≤ d) (v5 : Int) (M : sd_M) (Rr : Int × sd_M) (h : f_X4_truth_161 v5 M = some Rr) : sd_B X d sd_q_X4_truth 161 [(5, .inl (v5))] [] M (some (.inr (.inl Rr.1)), sd_rp Rr.2, 0, 0) := by
  unfold f_X4_truth_161 at h
  refine sd_b_go 1 (pc2 := 163) (lv2 := [(5, .inl (v5))]) (st2 := [.inl (v5)]) rfl ?_
  by_cases c1 : v5 = 0
  · rw [if_pos c1] at h
    refine sd_b_zt (c := .eq) (tgt := 170) rfl (decide_eq_true c1) (by decide) ?_
    refine sd_b_go 1 (pc2 := 171) (lv2 := [(5, .inl (v5))]) (st2 := [.inr (.inl (0))]) rfl ?_
    cases h
    exact sd_b_rt rfl rfl rfl
  · rw [if_neg c1] at h
    refine sd_b_zf (c := .eq) rfl (decide_eq_false c1) (by decide) ?_
    refine sd_b_go 2 (pc2 := 171) (lv2 := [(5, .inl (v5))]) (st2 := [.inr (.inl (1))]) rfl ?_
    cases h
    exact sd_b_rt rfl rfl rfl
def f_X4_truth_51 (s0 : Int) (M : sd_M) : Option (Int × sd_M) := f_X4_truth_161 s0 M
set_option maxRecDepth 4000 in
theorem t_X4_truth_51 {X : Nat → List sd_V → List sd_E → sd_A → Prop} {d : Nat} (hd : 0 ≤ d) (s0 : Int) (M : sd_M) (Rr : Int × sd_M) (h : f_X4_truth_51 s0 M = some Rr) : sd_B X d sd_q_X4_truth 51 [] [.inl (s0)] M (some (.inr (.inl Rr.1)), sd_rp Rr.2, 0, 0) := by
  unfold f_X4_truth_51 at h
  refine sd_b_go 2 (pc2 := 161) (lv2 := [(5, .inl (s0))]) (st2 := []) rfl ?_
  refine sd_b_wk [(5, .inl (s0))] (List.forall_mem_cons.mpr ⟨rfl, (fun _ h0 => absurd h0 List.not_mem_nil)⟩) ?_
  exact t_X4_truth_161 hd s0 M _ h
def f_X4_truth_67 (s0 : Int) (M : sd_M) : Option (Int × sd_M) := f_X4_truth_161 s0 M
set_option maxRecDepth 4000 in
theorem t_X4_truth_67 {X : Nat → List sd_V → List sd_E → sd_A → Prop} {d : Nat} (hd : 0 ≤ d) (s0 : Int) (M : sd_M) (Rr : Int × sd_M) (h : f_X4_truth_67 s0 M = some Rr) : sd_B X d sd_q_X4_truth 67 [] [.inl (s0)] M (some (.inr (.inl Rr.1)), sd_rp Rr.2, 0, 0) := by
  unfold f_X4_truth_67 at h
  refine sd_b_go 2 (pc2 := 161) (lv2 := [(5, .inl (s0))]) (st2 := []) rfl ?_
  refine sd_b_wk [(5, .inl (s0))] (List.forall_mem_cons.mpr ⟨rfl, (fun _ h0 => absurd h0 List.not_mem_nil)⟩) ?_
  exact t_X4_truth_161 hd s0 M _ h
def f_X4_truth_83 (s0 : Int) (M : sd_M) : Option (Int × sd_M) := f_X4_truth_161 s0 M
set_option maxRecDepth 4000 in
theorem t_X4_truth_83 {X : Nat → List sd_V → List sd_E → sd_A → Prop} {d : Nat} (hd : 0 ≤ d) (s0 : Int) (M : sd_M) (Rr : Int × sd_M) (h : f_X4_truth_83 s0 M = some Rr) : sd_B X d sd_q_X4_truth 83 [] [.inl (s0)] M (some (.inr (.inl Rr.1)), sd_rp Rr.2, 0, 0) := by
  unfold f_X4_truth_83 at h
  refine sd_b_go 2 (pc2 := 161) (lv2 := [(5, .inl (s0))]) (st2 := []) rfl ?_
  refine sd_b_wk [(5, .inl (s0))] (List.forall_mem_cons.mpr ⟨rfl, (fun _ h0 => absurd h0 List.not_mem_nil)⟩) ?_
  exact t_X4_truth_161 hd s0 M _ h
def f_X4_truth_99 (s0 : Int) (M : sd_M) : Option (Int × sd_M) := f_X4_truth_161 s0 M
set_option maxRecDepth 4000 in
theorem t_X4_truth_99 {X : Nat → List sd_V → List sd_E → sd_A → Prop} {d : Nat} (hd : 0 ≤ d) (s0 : Int) (M : sd_M) (Rr : Int × sd_M) (h : f_X4_truth_99 s0 M = some Rr) : sd_B X d sd_q_X4_truth 99 [] [.inl (s0)] M (some (.inr (.inl Rr.1)), sd_rp Rr.2, 0, 0) := by
  unfold f_X4_truth_99 at h
  refine sd_b_go 2 (pc2 := 161) (lv2 := [(5, .inl (s0))]) (st2 := []) rfl ?_
  refine sd_b_wk [(5, .inl (s0))] (List.forall_mem_cons.mpr ⟨rfl, (fun _ h0 => absurd h0 List.not_mem_nil)⟩) ?_
  exact t_X4_truth_161 hd s0 M _ h
def f_X4_truth_115 (s0 : Int) (M : sd_M) : Option (Int × sd_M) := f_X4_truth_161 s0 M
set_option maxRecDepth 4000 in
theorem t_X4_truth_115 {X : Nat → List sd_V → List sd_E → sd_A → Prop} {d : Nat} (hd : 0 ≤ d) (s0 : Int) (M : sd_M) (Rr : Int × sd_M) (h : f_X4_truth_115 s0 M = some Rr) : sd_B X d sd_q_X4_truth 115 [] [.inl (s0)] M (some (.inr (.inl Rr.1)), sd_rp Rr.2, 0, 0) := by
  unfold f_X4_truth_115 at h
  refine sd_b_go 2 (pc2 := 161) (lv2 := [(5, .inl (s0))]) (st2 := []) rfl ?_
  refine sd_b_wk [(5, .inl (s0))] (List.forall_mem_cons.mpr ⟨rfl, (fun _ h0 => absurd h0 List.not_mem_nil)⟩) ?_
  exact t_X4_truth_161 hd s0 M _ h
def f_X4_truth_137 (s0 : Int) (M : sd_M) : Option (Int × sd_M) := f_X4_truth_161 s0 M
set_option maxRecDepth 4000 in
theorem t_X4_truth_137 {X : Nat → List sd_V → List sd_E → sd_A → Prop} {d : Nat} (hd : 0 ≤ d) (s0 : Int) (M : sd_M) (Rr : Int × sd_M) (h : f_X4_truth_137 s0 M = some Rr) : sd_B X d sd_q_X4_truth 137 [] [.inl (s0)] M (some (.inr (.inl Rr.1)), sd_rp Rr.2, 0, 0) := by
  unfold f_X4_truth_137 at h
  refine sd_b_go 2 (pc2 := 161) (lv2 := [(5, .inl (s0))]) (st2 := []) rfl ?_
  refine sd_b_wk [(5, .inl (s0))] (List.forall_mem_cons.mpr ⟨rfl, (fun _ h0 => absurd h0 List.not_mem_nil)⟩) ?_
  exact t_X4_truth_161 hd s0 M _ h
def f_X4_truth_136 (M : sd_M) : Option (Int × sd_M) := f_X4_truth_137 0 M
set_option maxRecDepth 4000 in
theorem t_X4_truth_136 {X : Nat → List sd_V → List sd_E → sd_A → Prop} {d : Nat} (hd : 0 ≤ d) (M : sd_M) (Rr : Int × sd_M) (h : f_X4_truth_136 M = some Rr) : sd_B X d sd_q_X4_truth 136 [] [] M (some (.inr (.inl Rr.1)), sd_rp Rr.2, 0, 0) := by
  unfold f_X4_truth_136 at h
  refine sd_b_go 1 (pc2 := 137) (lv2 := []) (st2 := [.inl (0)]) rfl ?_
  refine sd_b_wk [] (fun _ h0 => absurd h0 List.not_mem_nil) ?_
  exact t_X4_truth_137 hd 0 M _ h
def f_X4_truth_159 (s0 : Int) (M : sd_M) : Option (Int × sd_M) := f_X4_truth_161 s0 M
set_option maxRecDepth 4000 in
theorem t_X4_truth_159 {X : Nat → List sd_V → List sd_E → sd_A → Prop} {d : Nat} (hd : 0 ≤ d) (s0 : Int) (M : sd_M) (Rr : Int × sd_M) (h : f_X4_truth_159 s0 M = some Rr) : sd_B X d sd_q_X4_truth 159 [] [.inl (s0)] M (some (.inr (.inl Rr.1)), sd_rp Rr.2, 0, 0) := by
  unfold f_X4_truth_159 at h
  refine sd_b_go 1 (pc2 := 161) (lv2 := [(5, .inl (s0))]) (st2 := []) rfl ?_
  refine sd_b_wk [(5, .inl (s0))] (List.forall_mem_cons.mpr ⟨rfl, (fun _ h0 => absurd h0 List.not_mem_nil)⟩) ?_
  exact t_X4_truth_161 hd s0 M _ h
def f_X4_truth_154 (M : sd_M) : Option (Int × sd_M) := f_X4_truth_159 1 M
set_option maxRecDepth 4000 in
theorem t_X4_truth_154 {X : Nat → List sd_V → List sd_E → sd_A → Prop} {d : Nat} (hd : 0 ≤ d) (M : sd_M) (Rr : Int × sd_M) (h : f_X4_truth_154 M = some Rr) : sd_B X d sd_q_X4_truth 154 [] [] M (some (.inr (.inl Rr.1)), sd_rp Rr.2, 0, 0) := by
  unfold f_X4_truth_154 at h
  refine sd_b_go 2 (pc2 := 159) (lv2 := []) (st2 := [.inl (1)]) rfl ?_
  refine sd_b_wk [] (fun _ h0 => absurd h0 List.not_mem_nil) ?_
  exact t_X4_truth_159 hd 1 M _ h
def f_X4_truth (p0 : Int) (p1 : Int) (p2 : Int) (M : sd_M) : Option (Int × sd_M) := if p0 = 7 then (if 0 ≤ (sd_cmpl p1 p2) then (f_X4_truth_51 0 M) else (f_X4_truth_51 1 M)) else (if p0 = 8 then (if 0 < (sd_cmpl p1 p2) then (f_X4_truth_67 0 M) else (f_X4_truth_67 1 M)) else (if p0 = 9 then (if (sd_cmpl p1 p2) = 0 then (f_X4_truth_83 1 M) else (f_X4_truth_83 0 M)) else (if p0 = 10 then (if (sd_cmpl p1 p2) < 0 then (f_X4_truth_99 0 M) else (f_X4_truth_99 1 M)) else (if p0 = 11 then (if (sd_cmpl p1 p2) ≤ 0 then (f_X4_truth_115 0 M) else (f_X4_truth_115 1 M)) else (if p0 = 12 then (if (sd_cmpl p1 0) = 0 then (f_X4_truth_136 M) else (if (sd_cmpl p2 0) = 0 then (f_X4_truth_136 M) else (f_X4_truth_137 1 M))) else (if (sd_cmpl p1 0) = 0 then (if (sd_cmpl p2 0) = 0 then (f_X4_truth_159 0 M) else (f_X4_truth_154 M)) else (f_X4_truth_154 M)))))))
set_option maxRecDepth 4000 in
theorem t_X4_truth {X : Nat → List sd_V → List sd_E → sd_A → Prop} {d : Nat} (hd : 0 ≤ d) (p0 : Int) (p1 : Int) (p2 : Int) (M : sd_M) (Rr : Int × sd_M) (h : f_X4_truth p0 p1 p2 M = some Rr) : sd_B X d sd_q_X4_truth 0 [(0, .inl (p0)), (1, .inr (.inl (p1))), (3, .inr (.inl (p2)))] [] M (some (.inr (.inl Rr.1)), sd_rp Rr.2, 0, 0) := by
  unfold f_X4_truth at h
  refine sd_b_go 1 (pc2 := 1) (lv2 := [(0, .inl (p0)), (1, .inr (.inl (p1))), (3, .inr (.inl (p2)))]) (st2 := [.inl (p0)]) rfl ?_
  by_cases c1 : p0 = 7
  · rw [if_pos c1] at h
    refine sd_b_eq c1 ?_
    refine sd_b_go 1 (pc2 := 40) (lv2 := [(0, .inl (p0)), (1, .inr (.inl (p1))), (3, .inr (.inl (p2)))]) (st2 := []) rfl ?_
    refine sd_b_go 3 (pc2 := 43) (lv2 := [(0, .inl (p0)), (1, .inr (.inl (p1))), (3, .inr (.inl (p2)))]) (st2 := [.inl (sd_cmpl p1 p2)]) rfl ?_
    by_cases c2 : 0 ≤ (sd_cmpl p1 p2)
    · rw [if_pos c2] at h
      refine sd_b_zt (c := .ge) (tgt := 50) rfl (decide_eq_true c2) (by decide) ?_
      refine sd_b_go 1 (pc2 := 51) (lv2 := [(0, .inl (p0)), (1, .inr (.inl (p1))), (3, .inr (.inl (p2)))]) (st2 := [.inl (0)]) rfl ?_
      refine sd_b_wk [] (fun _ h0 => absurd h0 List.not_mem_nil) ?_
      exact t_X4_truth_51 hd 0 M _ h
    · rw [if_neg c2] at h
      refine sd_b_zf (c := .ge) rfl (decide_eq_false c2) (by decide) ?_
      refine sd_b_go 2 (pc2 := 51) (lv2 := [(0, .inl (p0)), (1, .inr (.inl (p1))), (3, .inr (.inl (p2)))]) (st2 := [.inl (1)]) rfl ?_
      refine sd_b_wk [] (fun _ h0 => absurd h0 List.not_mem_nil) ?_
      exact t_X4_truth_51 hd 1 M _ h
  · rw [if_neg c1] at h
    by_cases c3 : p0 = 8
    · rw [if_pos c3] at h
      refine sd_b_eq c3 ?_
      refine sd_b_go 1 (pc2 := 56) (lv2 := [(0, .inl (p0)), (1, .inr (.inl (p1))), (3, .inr (.inl (p2)))]) (st2 := []) rfl ?_
      refine sd_b_go 3 (pc2 := 59) (lv2 := [(0, .inl (p0)), (1, .inr (.inl (p1))), (3, .inr (.inl (p2)))]) (st2 := [.inl (sd_cmpl p1 p2)]) rfl ?_
      by_cases c4 : 0 < (sd_cmpl p1 p2)
      · rw [if_pos c4] at h
        refine sd_b_zt (c := .gt) (tgt := 66) rfl (decide_eq_true c4) (by decide) ?_
        refine sd_b_go 1 (pc2 := 67) (lv2 := [(0, .inl (p0)), (1, .inr (.inl (p1))), (3, .inr (.inl (p2)))]) (st2 := [.inl (0)]) rfl ?_
        refine sd_b_wk [] (fun _ h0 => absurd h0 List.not_mem_nil) ?_
        exact t_X4_truth_67 hd 0 M _ h
      · rw [if_neg c4] at h
        refine sd_b_zf (c := .gt) rfl (decide_eq_false c4) (by decide) ?_
        refine sd_b_go 2 (pc2 := 67) (lv2 := [(0, .inl (p0)), (1, .inr (.inl (p1))), (3, .inr (.inl (p2)))]) (st2 := [.inl (1)]) rfl ?_
        refine sd_b_wk [] (fun _ h0 => absurd h0 List.not_mem_nil) ?_
        exact t_X4_truth_67 hd 1 M _ h
    · rw [if_neg c3] at h
      by_cases c5 : p0 = 9
      · rw [if_pos c5] at h
        refine sd_b_eq c5 ?_
        refine sd_b_go 1 (pc2 := 72) (lv2 := [(0, .inl (p0)), (1, .inr (.inl (p1))), (3, .inr (.inl (p2)))]) (st2 := []) rfl ?_
        refine sd_b_go 3 (pc2 := 75) (lv2 := [(0, .inl (p0)), (1, .inr (.inl (p1))), (3, .inr (.inl (p2)))]) (st2 := [.inl (sd_cmpl p1 p2)]) rfl ?_
        by_cases c6 : (sd_cmpl p1 p2) = 0
        · rw [if_pos c6] at h
          refine sd_b_zf (c := .ne) rfl (decide_eq_false (not_not_intro c6)) (by decide) ?_
          refine sd_b_go 2 (pc2 := 83) (lv2 := [(0, .inl (p0)), (1, .inr (.inl (p1))), (3, .inr (.inl (p2)))]) (st2 := [.inl (1)]) rfl ?_
          refine sd_b_wk [] (fun _ h0 => absurd h0 List.not_mem_nil) ?_
          exact t_X4_truth_83 hd 1 M _ h
        · rw [if_neg c6] at h
          refine sd_b_zt (c := .ne) (tgt := 82) rfl (decide_eq_true c6) (by decide) ?_
          refine sd_b_go 1 (pc2 := 83) (lv2 := [(0, .inl (p0)), (1, .inr (.inl (p1))), (3, .inr (.inl (p2)))]) (st2 := [.inl (0)]) rfl ?_
          refine sd_b_wk [] (fun _ h0 => absurd h0 List.not_mem_nil) ?_
          exact t_X4_truth_83 hd 0 M _ h
      · rw [if_neg c5] at h
        by_cases c7 : p0 = 10
        · rw [if_pos c7] at h
          refine sd_b_eq c7 ?_
          refine sd_b_go 1 (pc2 := 88) (lv2 := [(0, .inl (p0)), (1, .inr (.inl (p1))), (3, .inr (.inl (p2)))]) (st2 := []) rfl ?_
          refine sd_b_go 3 (pc2 := 91) (lv2 := [(0, .inl (p0)), (1, .inr (.inl (p1))), (3, .inr (.inl (p2)))]) (st2 := [.inl (sd_cmpl p1 p2)]) rfl ?_
          by_cases c8 : (sd_cmpl p1 p2) < 0
          · rw [if_pos c8] at h
            refine sd_b_zt (c := .lt) (tgt := 98) rfl (decide_eq_true c8) (by decide) ?_
            refine sd_b_go 1 (pc2 := 99) (lv2 := [(0, .inl (p0)), (1, .inr (.inl (p1))), (3, .inr (.inl (p2)))]) (st2 := [.inl (0)]) rfl ?_
            refine sd_b_wk [] (fun _ h0 => absurd h0 List.not_mem_nil) ?_
            exact t_X4_truth_99 hd 0 M _ h
          · rw [if_neg c8] at h
            refine sd_b_zf (c := .lt) rfl (decide_eq_false c8) (by decide) ?_
            refine sd_b_go 2 (pc2 := 99) (lv2 := [(0, .inl (p0)), (1, .inr (.inl (p1))), (3, .inr (.inl (p2)))]) (st2 := [.inl (1)]) rfl ?_
            refine sd_b_wk [] (fun _ h0 => absurd h0 List.not_mem_nil) ?_
            exact t_X4_truth_99 hd 1 M _ h
        · rw [if_neg c7] at h
          by_cases c9 : p0 = 11
          · rw [if_pos c9] at h
            refine sd_b_eq c9 ?_
            refine sd_b_go 1 (pc2 := 104) (lv2 := [(0, .inl (p0)), (1, .inr (.inl (p1))), (3, .inr (.inl (p2)))]) (st2 := []) rfl ?_
            refine sd_b_go 3 (pc2 := 107) (lv2 := [(0, .inl (p0)), (1, .inr (.inl (p1))), (3, .inr (.inl (p2)))]) (st2 := [.inl (sd_cmpl p1 p2)]) rfl ?_
            by_cases c10 : (sd_cmpl p1 p2) ≤ 0
            · rw [if_pos c10] at h
              refine sd_b_zt (c := .le) (tgt := 114) rfl (decide_eq_true c10) (by decide) ?_
              refine sd_b_go 1 (pc2 := 115) (lv2 := [(0, .inl (p0)), (1, .inr (.inl (p1))), (3, .inr (.inl (p2)))]) (st2 := [.inl (0)]) rfl ?_
              refine sd_b_wk [] (fun _ h0 => absurd h0 List.not_mem_nil) ?_
              exact t_X4_truth_115 hd 0 M _ h
            · rw [if_neg c10] at h
              refine sd_b_zf (c := .le) rfl (decide_eq_false c10) (by decide) ?_
              refine sd_b_go 2 (pc2 := 115) (lv2 := [(0, .inl (p0)), (1, .inr (.inl (p1))), (3, .inr (.inl (p2)))]) (st2 := [.inl (1)]) rfl ?_
              refine sd_b_wk [] (fun _ h0 => absurd h0 List.not_mem_nil) ?_
              exact t_X4_truth_115 hd 1 M _ h
          · rw [if_neg c9] at h
            by_cases c11 : p0 = 12
            · rw [if_pos c11] at h
              refine sd_b_eq c11 ?_
              refine sd_b_go 1 (pc2 := 120) (lv2 := [(0, .inl (p0)), (1, .inr (.inl (p1))), (3, .inr (.inl (p2)))]) (st2 := []) rfl ?_
              refine sd_b_go 3 (pc2 := 123) (lv2 := [(0, .inl (p0)), (1, .inr (.inl (p1))), (3, .inr (.inl (p2)))]) (st2 := [.inl (sd_cmpl p1 0)]) rfl ?_
              by_cases c12 : (sd_cmpl p1 0) = 0
              · rw [if_pos c12] at h
                refine sd_b_zt (c := .eq) (tgt := 136) rfl (decide_eq_true c12) (by decide) ?_
                refine sd_b_wk [] (fun _ h0 => absurd h0 List.not_mem_nil) ?_
                exact t_X4_truth_136 hd M _ h
              · rw [if_neg c12] at h
                refine sd_b_zf (c := .eq) rfl (decide_eq_false c12) (by decide) ?_
                refine sd_b_go 3 (pc2 := 129) (lv2 := [(0, .inl (p0)), (1, .inr (.inl (p1))), (3, .inr (.inl (p2)))]) (st2 := [.inl (sd_cmpl p2 0)]) rfl ?_
                by_cases c13 : (sd_cmpl p2 0) = 0
                · rw [if_pos c13] at h
                  refine sd_b_zt (c := .eq) (tgt := 136) rfl (decide_eq_true c13) (by decide) ?_
                  refine sd_b_wk [] (fun _ h0 => absurd h0 List.not_mem_nil) ?_
                  exact t_X4_truth_136 hd M _ h
                · rw [if_neg c13] at h
                  refine sd_b_zf (c := .eq) rfl (decide_eq_false c13) (by decide) ?_
                  refine sd_b_go 2 (pc2 := 137) (lv2 := [(0, .inl (p0)), (1, .inr (.inl (p1))), (3, .inr (.inl (p2)))]) (st2 := [.inl (1)]) rfl ?_
                  refine sd_b_wk [] (fun _ h0 => absurd h0 List.not_mem_nil) ?_
                  exact t_X4_truth_137 hd 1 M _ h
            · rw [if_neg c11] at h
              refine sd_b_td (tgt := 142) rfl (by omega) (by decide) ?_
              refine sd_b_go 3 (pc2 := 145) (lv2 := [(0, .inl (p0)), (1, .inr (.inl (p1))), (3, .inr (.inl (p2)))]) (st2 := [.inl (sd_cmpl p1 0)]) rfl ?_
              by_cases c14 : (sd_cmpl p1 0) = 0
              · rw [if_pos c14] at h
                refine sd_b_zf (c := .ne) rfl (decide_eq_false (not_not_intro c14)) (by decide) ?_
                refine sd_b_go 3 (pc2 := 151) (lv2 := [(0, .inl (p0)), (1, .inr (.inl (p1))), (3, .inr (.inl (p2)))]) (st2 := [.inl (sd_cmpl p2 0)]) rfl ?_
                by_cases c15 : (sd_cmpl p2 0) = 0
                · rw [if_pos c15] at h
                  refine sd_b_zt (c := .eq) (tgt := 158) rfl (decide_eq_true c15) (by decide) ?_
                  refine sd_b_go 1 (pc2 := 159) (lv2 := [(0, .inl (p0)), (1, .inr (.inl (p1))), (3, .inr (.inl (p2)))]) (st2 := [.inl (0)]) rfl ?_
                  refine sd_b_wk [] (fun _ h0 => absurd h0 List.not_mem_nil) ?_
                  exact t_X4_truth_159 hd 0 M _ h
                · rw [if_neg c15] at h
                  refine sd_b_zf (c := .eq) rfl (decide_eq_false c15) (by decide) ?_
                  refine sd_b_wk [] (fun _ h0 => absurd h0 List.not_mem_nil) ?_
                  exact t_X4_truth_154 hd M _ h
              · rw [if_neg c14] at h
                refine sd_b_zt (c := .ne) (tgt := 154) rfl (decide_eq_true c14) (by decide) ?_
                refine sd_b_wk [] (fun _ h0 => absurd h0 List.not_mem_nil) ?_
                exact t_X4_truth_154 hd M _ h
theorem m_X4_truth {X : Nat → List sd_V → List sd_E → sd_A → Prop} {d : Nat} (hd : 1 ≤ d) {p0 : Int} {p1 : Int} {p2 : Int} {M : sd_M} {Rr : Int × sd_M} (h : f_X4_truth p0 p1 p2 M = some Rr) : sd_Cal X d 39 [.inl (p0), .inr (.inl (p1)), .inr (.inl (p2))] (sd_rp M) (some (.inr (.inl Rr.1)), sd_rp Rr.2, 0, 0) := by
  obtain ⟨d, rfl⟩ : ∃ d2, d = d2 + 1 := ⟨d - 1, by omega⟩
  exact sd_cal_of sd_i_X4_truth (Nat.le_of_ble_eq_true rfl) (t_X4_truth (by omega) p0 p1 p2 M Rr h)
-- X5_stepOf
def sd_q_X5_stepOf : sd_MI := (yX5_stepOf, cX5_stepOf, 1, (some .int), 5, 1, sd_t_X5_stepOf)
set_option maxRecDepth 4000 in
theorem sd_i_X5_stepOf : sd_mL[47]? = some sd_q_X5_stepOf := rfl
def f_X5_stepOf (p0 : Int) (M : sd_M) : Option (Int × sd_M) := if p0 = 37 then (some (6, M)) else (if p0 = 42 then (some (4, M)) else (if p0 = 43 then (some (2, M)) else (if p0 = 45 then (some (3, M)) else (if p0 = 47 then (some (5, M)) else (if p0 = 60 then (some (7, M)) else (if p0 = 61 then (some (9, M)) else (if p0 = 62 then (some (11, M)) else (if p0 = 316 then (some (8, M)) else (if p0 = 318 then (some (10, M)) else (some ((-1), M)))))))))))
set_option maxRecDepth 4000 in
theorem t_X5_stepOf {X : Nat → List sd_V → List sd_E → sd_A → Prop} {d : Nat} (hd : 0 ≤ d) (p0 : Int) (M : sd_M) (Rr : Int × sd_M) (h : f_X5_stepOf p0 M = some Rr) : sd_B X d sd_q_X5_stepOf 0 [(0, .inl (p0))] [] M (some (.inl Rr.1), sd_rp Rr.2, 0, 0) := by
  unfold f_X5_stepOf at h
  refine sd_b_go 1 (pc2 := 1) (lv2 := [(0, .inl (p0))]) (st2 := [.inl (p0)]) rfl ?_
  by_cases c1 : p0 = 37
  · rw [if_pos c1] at h
    refine sd_b_eq c1 ?_
    refine sd_b_go 1 (pc2 := 100) (lv2 := [(0, .inl (p0))]) (st2 := []) rfl ?_
    refine sd_b_go 1 (pc2 := 102) (lv2 := [(0, .inl (p0))]) (st2 := [.inl (6)]) rfl ?_
    cases h
    exact sd_b_rt rfl rfl rfl
  · rw [if_neg c1] at h
    by_cases c2 : p0 = 42
    · rw [if_pos c2] at h
      refine sd_b_eq c2 ?_
      refine sd_b_go 1 (pc2 := 96) (lv2 := [(0, .inl (p0))]) (st2 := []) rfl ?_
      refine sd_b_go 1 (pc2 := 97) (lv2 := [(0, .inl (p0))]) (st2 := [.inl (4)]) rfl ?_
      cases h
      exact sd_b_rt rfl rfl rfl
    · rw [if_neg c2] at h
      by_cases c3 : p0 = 43
      · rw [if_pos c3] at h
        refine sd_b_eq c3 ?_
        refine sd_b_go 1 (pc2 := 92) (lv2 := [(0, .inl (p0))]) (st2 := []) rfl ?_
        refine sd_b_go 1 (pc2 := 93) (lv2 := [(0, .inl (p0))]) (st2 := [.inl (2)]) rfl ?_
        cases h
        exact sd_b_rt rfl rfl rfl
      · rw [if_neg c3] at h
        by_cases c4 : p0 = 45
        · rw [if_pos c4] at h
          refine sd_b_eq c4 ?_
          refine sd_b_go 1 (pc2 := 94) (lv2 := [(0, .inl (p0))]) (st2 := []) rfl ?_
          refine sd_b_go 1 (pc2 := 95) (lv2 := [(0, .inl (p0))]) (st2 := [.inl (3)]) rfl ?_
          cases h
          exact sd_b_rt rfl rfl rfl
        · rw [if_neg c4] at h
          by_cases c5 : p0 = 47
          · rw [if_pos c5] at h
            refine sd_b_eq c5 ?_
            refine sd_b_go 1 (pc2 := 98) (lv2 := [(0, .inl (p0))]) (st2 := []) rfl ?_
            refine sd_b_go 1 (pc2 := 99) (lv2 := [(0, .inl (p0))]) (st2 := [.inl (5)]) rfl ?_
            cases h
            exact sd_b_rt rfl rfl rfl
          · rw [if_neg c5] at h
            by_cases c6 : p0 = 60
            · rw [if_pos c6] at h
              refine sd_b_eq c6 ?_
              refine sd_b_go 1 (pc2 := 103) (lv2 := [(0, .inl (p0))]) (st2 := []) rfl ?_
              refine sd_b_go 1 (pc2 := 105) (lv2 := [(0, .inl (p0))]) (st2 := [.inl (7)]) rfl ?_
              cases h
              exact sd_b_rt rfl rfl rfl
            · rw [if_neg c6] at h
              by_cases c7 : p0 = 61
              · rw [if_pos c7] at h
                refine sd_b_eq c7 ?_
                refine sd_b_go 1 (pc2 := 109) (lv2 := [(0, .inl (p0))]) (st2 := []) rfl ?_
                refine sd_b_go 1 (pc2 := 111) (lv2 := [(0, .inl (p0))]) (st2 := [.inl (9)]) rfl ?_
                cases h
                exact sd_b_rt rfl rfl rfl
              · rw [if_neg c7] at h
                by_cases c8 : p0 = 62
                · rw [if_pos c8] at h
                  refine sd_b_eq c8 ?_
                  refine sd_b_go 1 (pc2 := 115) (lv2 := [(0, .inl (p0))]) (st2 := []) rfl ?_
                  refine sd_b_go 1 (pc2 := 117) (lv2 := [(0, .inl (p0))]) (st2 := [.inl (11)]) rfl ?_
                  cases h
                  exact sd_b_rt rfl rfl rfl
                · rw [if_neg c8] at h
                  by_cases c9 : p0 = 316
                  · rw [if_pos c9] at h
                    refine sd_b_eq c9 ?_
                    refine sd_b_go 1 (pc2 := 106) (lv2 := [(0, .inl (p0))]) (st2 := []) rfl ?_
                    refine sd_b_go 1 (pc2 := 108) (lv2 := [(0, .inl (p0))]) (st2 := [.inl (8)]) rfl ?_
                    cases h
                    exact sd_b_rt rfl rfl rfl
                  · rw [if_neg c9] at h
                    by_cases c10 : p0 = 318
                    · rw [if_pos c10] at h
                      refine sd_b_eq c10 ?_
                      refine sd_b_go 1 (pc2 := 112) (lv2 := [(0, .inl (p0))]) (st2 := []) rfl ?_
                      refine sd_b_go 1 (pc2 := 114) (lv2 := [(0, .inl (p0))]) (st2 := [.inl (10)]) rfl ?_
                      cases h
                      exact sd_b_rt rfl rfl rfl
                    · rw [if_neg c10] at h
                      refine sd_b_ld (tgt := 118) rfl (by decide) (by simp [Op.lookupswitch.offset, Ne.symm c1, Ne.symm c2, Ne.symm c3, Ne.symm c4, Ne.symm c5, Ne.symm c6, Ne.symm c7, Ne.symm c8, Ne.symm c9, Ne.symm c10]) (by decide) ?_
                      refine sd_b_go 1 (pc2 := 119) (lv2 := [(0, .inl (p0))]) (st2 := [.inl ((-1))]) rfl ?_
                      cases h
                      exact sd_b_rt rfl rfl rfl
theorem m_X5_stepOf {X : Nat → List sd_V → List sd_E → sd_A → Prop} {d : Nat} (hd : 1 ≤ d) {p0 : Int} {M : sd_M} {Rr : Int × sd_M} (h : f_X5_stepOf p0 M = some Rr) : sd_Cal X d 47 [.inl (p0)] (sd_rp M) (some (.inl Rr.1), sd_rp Rr.2, 0, 0) := by
  obtain ⟨d, rfl⟩ : ∃ d2, d = d2 + 1 := ⟨d - 1, by omega⟩
  exact sd_cal_of sd_i_X5_stepOf (Nat.le_of_ble_eq_true rfl) (t_X5_stepOf (by omega) p0 M Rr h)
-- X7_append
def sd_q_X7_append : sd_MI := (yX7_append, cX7_append, 3, none, 7, 1, sd_t_X7_append)
set_option maxRecDepth 4000 in
theorem sd_i_X7_append : sd_mL[54]? = some sd_q_X7_append := rfl
def f_X7_append_40 (k3 : Int → Int → sd_M → Option (Int × sd_M)) (v1 : Int) (v2 : Int) (M : sd_M) : Option (Int × sd_M) := k3 v1 (sd_w (v2 + (-8))) M
set_option maxRecDepth 4000 in
theorem t_X7_append_40 {X : Nat → List sd_V → List sd_E → sd_A → Prop} {d : Nat} (hd : 0 ≤ d) (k3 : Int → Int → sd_M → Option (Int × sd_M)) (hk3 : ∀ (v1 : Int) (v2 : Int) (M : sd_M) (Rr : Int × sd_M), k3 v1 v2 M = some Rr → sd_B X d sd_q_X7_append 3 [(0, .inr (.inr (some (1)))), (1, .inl (v1)), (2, .inl (v2))] [] M (none, sd_rp Rr.2, 0, 0)) (v1 : Int) (v2 : Int) (M : sd_M) (Rr : Int × sd_M) (h : f_X7_append_40 k3 v1 v2 M = some Rr) : sd_B X d sd_q_X7_append 40 [(0, .inr (.inr (some (1)))), (1, .inl (v1)), (2, .inl (v2))] [] M (none, sd_rp Rr.2, 0, 0) := by
  unfold f_X7_append_40 at h
  refine sd_b_go 2 (pc2 := 3) (lv2 := [(2, .inl (sd_w (v2 + (-8)))), (0, .inr (.inr (some (1)))), (1, .inl (v1))]) (st2 := []) rfl ?_
  refine sd_b_wk [(0, .inr (.inr (some (1)))), (1, .inl (v1)), (2, .inl (sd_w (v2 + (-8))))] (List.forall_mem_cons.mpr ⟨rfl, (List.forall_mem_cons.mpr ⟨rfl, (List.forall_mem_cons.mpr ⟨rfl, (fun _ h0 => absurd h0 List.not_mem_nil)⟩)⟩)⟩) ?_
  exact hk3 v1 (sd_w (v2 + (-8))) M _ h
def f_X7_append_3 : Nat → Int → Int → sd_M → Option (Int × sd_M)
  | 0, _, _, _ => none
  | n + 1, v1, v2, M => if v2 < 0 then (some (0, M)) else (if 400 ≤ (M 1 1) then (f_X7_append_40 (f_X7_append_3 n) v1 v2 M) else (if 0 ≤ (M 1 1) ∧ (M 1 1) < 400 then (f_X7_append_40 (f_X7_append_3 n) v1 v2 (sd_s (sd_s M 2 (M 1 1).toNat (Int.bmod (Int.bmod (sd_shr (v1) (v2)) 256) 256)) 1 1 (sd_w ((sd_s M 2 (M 1 1).toNat (Int.bmod (Int.bmod (sd_shr (v1) (v2)) 256) 256) 1 1) + 1)))) else none))
set_option maxRecDepth 4000 in
theorem t_X7_append_3 {X : Nat → List sd_V → List sd_E → sd_A → Prop} {d : Nat} (hd : 0 ≤ d) : ∀ (n : Nat) (v1 : Int) (v2 : Int) (M : sd_M) (Rr : Int × sd_M), f_X7_append_3 n v1 v2 M = some Rr → sd_B X d sd_q_X7_append 3 [(0, .inr (.inr (some (1)))), (1, .inl (v1)), (2, .inl (v2))] [] M (none, sd_rp Rr.2, 0, 0) := by
  intro n
  induction n with
  | zero => intro v1 v2 M Rr h; cases h
  | succ n ih =>
    intro v1 v2 M Rr h
    rw [f_X7_append_3] at h
    refine sd_b_go 1 (pc2 := 4) (lv2 := [(0, .inr (.inr (some (1)))), (1, .inl (v1)), (2, .inl (v2))]) (st2 := [.inl (v2)]) rfl ?_
    by_cases c1 : v2 < 0
    · rw [if_pos c1] at h
      refine sd_b_zt (c := .lt) (tgt := 46) rfl (decide_eq_true c1) (by decide) ?_
      cases h
      exact sd_b_rt rfl rfl rfl
    · rw [if_neg c1] at h
      refine sd_b_zf (c := .lt) rfl (decide_eq_false c1) (by decide) ?_
      refine sd_b_go 1 (pc2 := 8) (lv2 := [(0, .inr (.inr (some (1)))), (1, .inl (v1)), (2, .inl (v2))]) (st2 := [.inr (.inr (some (1)))]) rfl ?_
      refine sd_b_gi (k := 1) sd_o_1 rfl rfl rfl ?_
      refine sd_b_go 1 (pc2 := 14) (lv2 := [(0, .inr (.inr (some (1)))), (1, .inl (v1)), (2, .inl (v2))]) (st2 := [.inl (400), .inl (M 1 1)]) rfl ?_
      by_cases c2 : 400 ≤ (M 1 1)
      · rw [if_pos c2] at h
        refine sd_b_ct (c := .ge) (tgt := 40) rfl (decide_eq_true c2) (by decide) ?_
        refine sd_b_wk [(0, .inr (.inr (some (1)))), (1, .inl (v1)), (2, .inl (v2))] (List.forall_mem_cons.mpr ⟨rfl, (List.forall_mem_cons.mpr ⟨rfl, (List.forall_mem_cons.mpr ⟨rfl, (fun _ h0 => absurd h0 List.not_mem_nil)⟩)⟩)⟩) ?_
        exact t_X7_append_40 hd (f_X7_append_3 n) ih v1 v2 M _ h
      · rw [if_neg c2] at h
        refine sd_b_cf (c := .ge) rfl (decide_eq_false c2) (by decide) ?_
        refine sd_b_go 1 (pc2 := 18) (lv2 := [(0, .inr (.inr (some (1)))), (1, .inl (v1)), (2, .inl (v2))]) (st2 := [.inr (.inr (some (1)))]) rfl ?_
        refine sd_b_gr (k := 0) sd_o_1 rfl rfl rfl ?_
        refine sd_b_go 1 (pc2 := 22) (lv2 := [(0, .inr (.inr (some (1)))), (1, .inl (v1)), (2, .inl (v2))]) (st2 := [.inr (.inr (some (1))), .inr (.inr (some (2)))]) rfl ?_
        refine sd_b_gi (k := 1) sd_o_1 rfl rfl rfl ?_
        refine sd_b_go 4 (pc2 := 29) (lv2 := [(0, .inr (.inr (some (1)))), (1, .inl (v1)), (2, .inl (v2))]) (st2 := [.inl (Int.bmod (sd_shr (v1) (v2)) 256), .inl (M 1 1), .inr (.inr (some (2)))]) rfl ?_
        obtain ⟨g3, h⟩ := sd_if h
        refine sd_b_sb (sd_oa sd_o_1 (by decide) (off := 1) (List.mem_of_getElem? (i := 0) rfl)) g3 rfl ?_
        refine sd_b_go 2 (pc2 := 32) (lv2 := [(0, .inr (.inr (some (1)))), (1, .inl (v1)), (2, .inl (v2))]) (st2 := [.inr (.inr (some (1))), .inr (.inr (some (1)))]) rfl ?_
        refine sd_b_gi (k := 1) sd_o_1 rfl rfl rfl ?_
        refine sd_b_go 2 (pc2 := 37) (lv2 := [(0, .inr (.inr (some (1)))), (1, .inl (v1)), (2, .inl (v2))]) (st2 := [.inl (sd_w ((sd_s M 2 (M 1 1).toNat (Int.bmod (Int.bmod (sd_shr (v1) (v2)) 256) 256) 1 1) + 1)), .inr (.inr (some (1)))]) rfl ?_
        refine sd_b_pi (k := 1) sd_o_1 rfl rfl rfl rfl rfl ?_
        refine sd_b_wk [(0, .inr (.inr (some (1)))), (1, .inl (v1)), (2, .inl (v2))] (List.forall_mem_cons.mpr ⟨rfl, (List.forall_mem_cons.mpr ⟨rfl, (List.forall_mem_cons.mpr ⟨rfl, (fun _ h0 => absurd h0 List.not_mem_nil)⟩)⟩)⟩) ?_
        exact t_X7_append_40 hd (f_X7_append_3 n) ih v1 v2 (sd_s (sd_s M 2 (M 1 1).toNat (Int.bmod (Int.bmod (sd_shr (v1) (v2)) 256) 256)) 1 1 (sd_w ((sd_s M 2 (M 1 1).toNat (Int.bmod (Int.bmod (sd_shr (v1) (v2)) 256) 256) 1 1) + 1))) _ h
def f_X7_append (p1 : Int) (M : sd_M) : Option (Int × sd_M) := f_X7_append_3 4000 p1 24 M
set_option maxRecDepth 4000 in
theorem t_X7_append {X : Nat → List sd_V → List sd_E → sd_A → Prop} {d : Nat} (hd : 0 ≤ d) (p1 : Int) (M : sd_M) (Rr : Int × sd_M) (h : f_X7_append p1 M = some Rr) : sd_B X d sd_q_X7_append 0 [(0, .inr (.inr (some (1)))), (1, .inl (p1))] [] M (none, sd_rp Rr.2, 0, 0) := by
  unfold f_X7_append at h
  refine sd_b_go 2 (pc2 := 3) (lv2 := [(2, .inl (24)), (0, .inr (.inr (some (1)))), (1, .inl (p1))]) (st2 := []) rfl ?_
  refine sd_b_wk [(0, .inr (.inr (some (1)))), (1, .inl (p1)), (2, .inl (24))] (List.forall_mem_cons.mpr ⟨rfl, (List.forall_mem_cons.mpr ⟨rfl, (List.forall_mem_cons.mpr ⟨rfl, (fun _ h0 => absurd h0 List.not_mem_nil)⟩)⟩)⟩) ?_
  exact t_X7_append_3 hd 4000 p1 24 M _ h
theorem m_X7_append {X : Nat → List sd_V → List sd_E → sd_A → Prop} {d : Nat} (hd : 1 ≤ d) {p1 : Int} {M : sd_M} {Rr : Int × sd_M} (h : f_X7_append p1 M = some Rr) : sd_Cal X d 54 [.inr (.inr (some (1))), .inl (p1)] (sd_rp M) (none, sd_rp Rr.2, 0, 0) := by
  obtain ⟨d, rfl⟩ : ∃ d2, d = d2 + 1 := ⟨d - 1, by omega⟩
  exact sd_cal_of sd_i_X7_append (Nat.le_of_ble_eq_true rfl) (t_X7_append (by omega) p1 M Rr h)
-- X7_addToken
def sd_q_X7_addToken : sd_MI := (yX7_addToken, cX7_addToken, 4, none, 7, 3, sd_t_X7_addToken)
set_option maxRecDepth 4000 in
theorem sd_i_X7_addToken : sd_mL[57]? = some sd_q_X7_addToken := rfl
def f_X7_addToken (p1 : Int) (p2 : Int) (p3 : Int) (M : sd_M) : Option (Int × sd_M) := if 401 ≤ (M 1 3) then (some (0, M)) else (if 0 ≤ (M 1 3) ∧ (M 1 3) < 401 then (if 0 ≤ (sd_s M 3 (M 1 3).toNat p1 1 3) ∧ (sd_s M 3 (M 1 3).toNat p1 1 3) < 401 then (if 0 ≤ (sd_s (sd_s M 3 (M 1 3).toNat p1) 4 (sd_s M 3 (M 1 3).toNat p1 1 3).toNat p2 1 3) ∧ (sd_s (sd_s M 3 (M 1 3).toNat p1) 4 (sd_s M 3 (M 1 3).toNat p1 1 3).toNat p2 1 3) < 401 then (some (0, sd_s (sd_s (sd_s (sd_s M 3 (M 1 3).toNat p1) 4 (sd_s M 3 (M 1 3).toNat p1 1 3).toNat p2) 5 (sd_s (sd_s M 3 (M 1 3).toNat p1) 4 (sd_s M 3 (M 1 3).toNat p1 1 3).toNat p2 1 3).toNat p3) 1 3 (sd_w ((sd_s (sd_s (sd_s M 3 (M 1 3).toNat p1) 4 (sd_s M 3 (M 1 3).toNat p1 1 3).toNat p2) 5 (sd_s (sd_s M 3 (M 1 3).toNat p1) 4 (sd_s M 3 (M 1 3).toNat p1 1 3).toNat p2 1 3).toNat p3 1 3) + 1)))) else none) else none) else none)
set_option maxRecDepth 4000 in
theorem t_X7_addToken {X : Nat → List sd_V → List sd_E → sd_A → Prop} {d : Nat} (hd : 0 ≤ d) (p1 : Int) (p2 : Int) (p3 : Int) (M : sd_M) (Rr : Int × sd_M) (h : f_X7_addToken p1 p2 p3 M = some Rr) : sd_B X d sd_q_X7_addToken 0 [(0, .inr (.inr (some (1)))), (1, .inl (p1)), (2, .inl (p2)), (3, .inl (p3))] [] M (none, sd_rp Rr.2, 0, 0) := by
  unfold f_X7_addToken at h
  refine sd_b_go 1 (pc2 := 1) (lv2 := [(0, .inr (.inr (some (1)))), (1, .inl (p1)), (2, .inl (p2)), (3, .inl (p3))]) (st2 := [.inr (.inr (some (1)))]) rfl ?_
  refine sd_b_gi (k := 3) sd_o_1 rfl rfl rfl ?_
  refine sd_b_go 1 (pc2 := 7) (lv2 := [(0, .inr (.inr (some (1)))), (1, .inl (p1)), (2, .inl (p2)), (3, .inl (p3))]) (st2 := [.inl (401), .inl (M 1 3)]) rfl ?_
  by_cases c1 : 401 ≤ (M 1 3)
  · rw [if_pos c1] at h
    refine sd_b_ct (c := .ge) (tgt := 50) rfl (decide_eq_true c1) (by decide) ?_
    cases h
    exact sd_b_rt rfl rfl rfl
  · rw [if_neg c1] at h
    refine sd_b_cf (c := .ge) rfl (decide_eq_false c1) (by decide) ?_
    refine sd_b_go 1 (pc2 := 11) (lv2 := [(0, .inr (.inr (some (1)))), (1, .inl (p1)), (2, .inl (p2)), (3, .inl (p3))]) (st2 := [.inr (.inr (some (1)))]) rfl ?_
    refine sd_b_gr (k := 5) sd_o_1 rfl rfl rfl ?_
    refine sd_b_go 1 (pc2 := 15) (lv2 := [(0, .inr (.inr (some (1)))), (1, .inl (p1)), (2, .inl (p2)), (3, .inl (p3))]) (st2 := [.inr (.inr (some (1))), .inr (.inr (some (3)))]) rfl ?_
    refine sd_b_gi (k := 3) sd_o_1 rfl rfl rfl ?_
    refine sd_b_go 1 (pc2 := 19) (lv2 := [(0, .inr (.inr (some (1)))), (1, .inl (p1)), (2, .inl (p2)), (3, .inl (p3))]) (st2 := [.inl (p1), .inl (M 1 3), .inr (.inr (some (3)))]) rfl ?_
    obtain ⟨g2, h⟩ := sd_if h
    refine sd_b_si (sd_oa sd_o_1 (by decide) (off := 2) (List.mem_of_getElem? (i := 1) rfl)) g2 rfl ?_
    refine sd_b_go 1 (pc2 := 21) (lv2 := [(0, .inr (.inr (some (1)))), (1, .inl (p1)), (2, .inl (p2)), (3, .inl (p3))]) (st2 := [.inr (.inr (some (1)))]) rfl ?_
    refine sd_b_gr (k := 6) sd_o_1 rfl rfl rfl ?_
    refine sd_b_go 1 (pc2 := 25) (lv2 := [(0, .inr (.inr (some (1)))), (1, .inl (p1)), (2, .inl (p2)), (3, .inl (p3))]) (st2 := [.inr (.inr (some (1))), .inr (.inr (some (4)))]) rfl ?_
    refine sd_b_gi (k := 3) sd_o_1 rfl rfl rfl ?_
    refine sd_b_go 1 (pc2 := 29) (lv2 := [(0, .inr (.inr (some (1)))), (1, .inl (p1)), (2, .inl (p2)), (3, .inl (p3))]) (st2 := [.inl (p2), .inl (sd_s M 3 (M 1 3).toNat p1 1 3), .inr (.inr (some (4)))]) rfl ?_
    obtain ⟨g3, h⟩ := sd_if h
    refine sd_b_si (sd_oa sd_o_1 (by decide) (off := 3) (List.mem_of_getElem? (i := 2) rfl)) g3 rfl ?_
    refine sd_b_go 1 (pc2 := 31) (lv2 := [(0, .inr (.inr (some (1)))), (1, .inl (p1)), (2, .inl (p2)), (3, .inl (p3))]) (st2 := [.inr (.inr (some (1)))]) rfl ?_
    refine sd_b_gr (k := 7) sd_o_1 rfl rfl rfl ?_
    refine sd_b_go 1 (pc2 := 35) (lv2 := [(0, .inr (.inr (some (1)))), (1, .inl (p1)), (2, .inl (p2)), (3, .inl (p3))]) (st2 := [.inr (.inr (some (1))), .inr (.inr (some (5)))]) rfl ?_
    refine sd_b_gi (k := 3) sd_o_1 rfl rfl rfl ?_
    refine sd_b_go 1 (pc2 := 39) (lv2 := [(0, .inr (.inr (some (1)))), (1, .inl (p1)), (2, .inl (p2)), (3, .inl (p3))]) (st2 := [.inl (p3), .inl (sd_s (sd_s M 3 (M 1 3).toNat p1) 4 (sd_s M 3 (M 1 3).toNat p1 1 3).toNat p2 1 3), .inr (.inr (some (5)))]) rfl ?_
    obtain ⟨g4, h⟩ := sd_if h
    refine sd_b_si (sd_oa sd_o_1 (by decide) (off := 4) (List.mem_of_getElem? (i := 3) rfl)) g4 rfl ?_
    refine sd_b_go 2 (pc2 := 42) (lv2 := [(0, .inr (.inr (some (1)))), (1, .inl (p1)), (2, .inl (p2)), (3, .inl (p3))]) (st2 := [.inr (.inr (some (1))), .inr (.inr (some (1)))]) rfl ?_
    refine sd_b_gi (k := 3) sd_o_1 rfl rfl rfl ?_
    refine sd_b_go 2 (pc2 := 47) (lv2 := [(0, .inr (.inr (some (1)))), (1, .inl (p1)), (2, .inl (p2)), (3, .inl (p3))]) (st2 := [.inl (sd_w ((sd_s (sd_s (sd_s M 3 (M 1 3).toNat p1) 4 (sd_s M 3 (M 1 3).toNat p1 1 3).toNat p2) 5 (sd_s (sd_s M 3 (M 1 3).toNat p1) 4 (sd_s M 3 (M 1 3).toNat p1 1 3).toNat p2 1 3).toNat p3 1 3) + 1)), .inr (.inr (some (1)))]) rfl ?_
    refine sd_b_pi (k := 3) sd_o_1 rfl rfl rfl rfl rfl ?_
    cases h
    exact sd_b_rt rfl rfl rfl
theorem m_X7_addToken {X : Nat → List sd_V → List sd_E → sd_A → Prop} {d : Nat} (hd : 1 ≤ d) {p1 : Int} {p2 : Int} {p3 : Int} {M : sd_M} {Rr : Int × sd_M} (h : f_X7_addToken p1 p2 p3 M = some Rr) : sd_Cal X d 57 [.inr (.inr (some (1))), .inl (p1), .inl (p2), .inl (p3)] (sd_rp M) (none, sd_rp Rr.2, 0, 0) := by
  obtain ⟨d, rfl⟩ : ∃ d2, d = d2 + 1 := ⟨d - 1, by omega⟩
  exact sd_cal_of sd_i_X7_addToken (Nat.le_of_ble_eq_true rfl) (t_X7_addToken (by omega) p1 p2 p3 M Rr h)
-- X7_byteAt
def sd_q_X7_byteAt : sd_MI := (yX7_byteAt, cX7_byteAt, 2, (some .int), 7, 1, sd_t_X7_byteAt)
set_option maxRecDepth 4000 in
theorem sd_i_X7_byteAt : sd_mL[58]? = some sd_q_X7_byteAt := rfl
def f_X7_byteAt (p1 : Int) (M : sd_M) : Option (Int × sd_M) := if p1 < 0 then (some (512, M)) else (if (M 1 1) ≤ p1 then (some (512, M)) else (if 400 ≤ p1 then (some (512, M)) else (if 0 ≤ p1 ∧ p1 < 400 then (some (sd_and (M 2 p1.toNat) (255), M)) else none)))
set_option maxRecDepth 4000 in
theorem t_X7_byteAt {X : Nat → List sd_V → List sd_E → sd_A → Prop} {d : Nat} (hd : 0 ≤ d) (p1 : Int) (M : sd_M) (Rr : Int × sd_M) (h : f_X7_byteAt p1 M = some Rr) : sd_B X d sd_q_X7_byteAt 0 [(0, .inr (.inr (some (1)))), (1, .inl (p1))] [] M (some (.inl Rr.1), sd_rp Rr.2, 0, 0) := by
  unfold f_X7_byteAt at h
  refine sd_b_go 1 (pc2 := 1) (lv2 := [(0, .inr (.inr (some (1)))), (1, .inl (p1))]) (st2 := [.inl (p1)]) rfl ?_
  by_cases c1 : p1 < 0
  · rw [if_pos c1] at h
    refine sd_b_zt (c := .lt) (tgt := 32) rfl (decide_eq_true c1) (by decide) ?_
    refine sd_b_go 1 (pc2 := 35) (lv2 := [(0, .inr (.inr (some (1)))), (1, .inl (p1))]) (st2 := [.inl (512)]) rfl ?_
    cases h
    exact sd_b_rt rfl rfl rfl
  · rw [if_neg c1] at h
    refine sd_b_zf (c := .lt) rfl (decide_eq_false c1) (by decide) ?_
    refine sd_b_go 2 (pc2 := 6) (lv2 := [(0, .inr (.inr (some (1)))), (1, .inl (p1))]) (st2 := [.inr (.inr (some (1))), .inl (p1)]) rfl ?_
    refine sd_b_gi (k := 1) sd_o_1 rfl rfl rfl ?_
    by_cases c2 : (M 1 1) ≤ p1
    · rw [if_pos c2] at h
      refine sd_b_ct (c := .ge) (tgt := 32) rfl (decide_eq_true c2) (by decide) ?_
      refine sd_b_go 1 (pc2 := 35) (lv2 := [(0, .inr (.inr (some (1)))), (1, .inl (p1))]) (st2 := [.inl (512)]) rfl ?_
      cases h
      exact sd_b_rt rfl rfl rfl
    · rw [if_neg c2] at h
      refine sd_b_cf (c := .ge) rfl (decide_eq_false c2) (by decide) ?_
      refine sd_b_go 2 (pc2 := 16) (lv2 := [(0, .inr (.inr (some (1)))), (1, .inl (p1))]) (st2 := [.inl (400), .inl (p1)]) rfl ?_
      by_cases c3 : 400 ≤ p1
      · rw [if_pos c3] at h
        refine sd_b_ct (c := .ge) (tgt := 32) rfl (decide_eq_true c3) (by decide) ?_
        refine sd_b_go 1 (pc2 := 35) (lv2 := [(0, .inr (.inr (some (1)))), (1, .inl (p1))]) (st2 := [.inl (512)]) rfl ?_
        cases h
        exact sd_b_rt rfl rfl rfl
      · rw [if_neg c3] at h
        refine sd_b_cf (c := .ge) rfl (decide_eq_false c3) (by decide) ?_
        refine sd_b_go 1 (pc2 := 20) (lv2 := [(0, .inr (.inr (some (1)))), (1, .inl (p1))]) (st2 := [.inr (.inr (some (1)))]) rfl ?_
        refine sd_b_gr (k := 0) sd_o_1 rfl rfl rfl ?_
        refine sd_b_go 1 (pc2 := 24) (lv2 := [(0, .inr (.inr (some (1)))), (1, .inl (p1))]) (st2 := [.inl (p1), .inr (.inr (some (2)))]) rfl ?_
        obtain ⟨g4, h⟩ := sd_if h
        refine sd_b_ab (sd_oa sd_o_1 (by decide) (off := 1) (List.mem_of_getElem? (i := 0) rfl)) (by decide) g4 rfl ?_
        refine sd_b_go 3 (pc2 := 35) (lv2 := [(0, .inr (.inr (some (1)))), (1, .inl (p1))]) (st2 := [.inl (sd_and (M 2 p1.toNat) (255))]) rfl ?_
        cases h
        exact sd_b_rt rfl rfl rfl
theorem m_X7_byteAt {X : Nat → List sd_V → List sd_E → sd_A → Prop} {d : Nat} (hd : 1 ≤ d) {p1 : Int} {M : sd_M} {Rr : Int × sd_M} (h : f_X7_byteAt p1 M = some Rr) : sd_Cal X d 58 [.inr (.inr (some (1))), .inl (p1)] (sd_rp M) (some (.inl Rr.1), sd_rp Rr.2, 0, 0) := by
  obtain ⟨d, rfl⟩ : ∃ d2, d = d2 + 1 := ⟨d - 1, by omega⟩
  exact sd_cal_of sd_i_X7_byteAt (Nat.le_of_ble_eq_true rfl) (t_X7_byteAt (by omega) p1 M Rr h)
-- X7_runOf
def sd_q_X7_runOf : sd_MI := (yX7_runOf, cX7_runOf, 6, (some .int), 7, 3, sd_t_X7_runOf)
set_option maxRecDepth 4000 in
theorem sd_i_X7_runOf : sd_mL[59]? = some sd_q_X7_runOf := rfl
def f_X7_runOf_6 : Nat → Int → Int → Int → Int → sd_M → Option (Int × sd_M)
  | 0, _, _, _, _, _ => none
  | n + 1, v1, v2, v4, v5, M => if (M 1 1) ≤ v5 then (some (v4, M)) else ((f_X7_byteAt v5 M).bind fun r2 => if r2.1 < v1 then (some (v4, r2.2)) else ((f_X7_byteAt v5 r2.2).bind fun r4 => if v2 < r4.1 then (some (v4, r4.2)) else (f_X7_runOf_6 n v1 v2 (sd_w (v4 + 1)) (sd_w (v5 + 1)) r4.2)))
set_option maxRecDepth 4000 in
theorem t_X7_runOf_6 {X : Nat → List sd_V → List sd_E → sd_A → Prop} {d : Nat} (hd : 1 ≤ d) : ∀ (n : Nat) (v1 : Int) (v2 : Int) (v4 : Int) (v5 : Int) (M : sd_M) (Rr : Int × sd_M), f_X7_runOf_6 n v1 v2 v4 v5 M = some Rr → sd_B X d sd_q_X7_runOf 6 [(0, .inr (.inr (some (1)))), (1, .inl (v1)), (2, .inl (v2)), (4, .inl (v4)), (5, .inl (v5))] [] M (some (.inl Rr.1), sd_rp Rr.2, 0, 0) := by
  intro n
  induction n with
  | zero => intro v1 v2 v4 v5 M Rr h; cases h
  | succ n ih =>
    intro v1 v2 v4 v5 M Rr h
    rw [f_X7_runOf_6] at h
    refine sd_b_go 2 (pc2 := 9) (lv2 := [(0, .inr (.inr (some (1)))), (1, .inl (v1)), (2, .inl (v2)), (4, .inl (v4)), (5, .inl (v5))]) (st2 := [.inr (.inr (some (1))), .inl (v5)]) rfl ?_
    refine sd_b_gi (k := 1) sd_o_1 rfl rfl rfl ?_
    by_cases c1 : (M 1 1) ≤ v5
    · rw [if_pos c1] at h
      refine sd_b_ct (c := .ge) (tgt := 44) rfl (decide_eq_true c1) (by decide) ?_
      refine sd_b_go 1 (pc2 := 46) (lv2 := [(0, .inr (.inr (some (1)))), (1, .inl (v1)), (2, .inl (v2)), (4, .inl (v4)), (5, .inl (v5))]) (st2 := [.inl (v4)]) rfl ?_
      cases h
      exact sd_b_rt rfl rfl rfl
    · rw [if_neg c1] at h
      refine sd_b_cf (c := .ge) rfl (decide_eq_false c1) (by decide) ?_
      refine sd_b_go 2 (pc2 := 18) (lv2 := [(0, .inr (.inr (some (1)))), (1, .inl (v1)), (2, .inl (v2)), (4, .inl (v4)), (5, .inl (v5))]) (st2 := [.inl (v5), .inr (.inr (some (1)))]) rfl ?_
      obtain ⟨r2, e2, h⟩ := sd_bnd h
      refine sd_b_call [.inr (.inr (some (1))), .inl (v5)] [] rfl rfl sd_i_X7_byteAt rfl rfl (Nat.le_of_ble_eq_true rfl) (sd_rc_v sd_o_1) (m_X7_byteAt (by omega) e2) ?_
      refine sd_b_go 1 (pc2 := 22) (lv2 := [(0, .inr (.inr (some (1)))), (1, .inl (v1)), (2, .inl (v2)), (4, .inl (v4)), (5, .inl (v5))]) (st2 := [.inl (v1), .inl (r2.1)]) rfl ?_
      by_cases c3 : r2.1 < v1
      · rw [if_pos c3] at h
        refine sd_b_ct (c := .lt) (tgt := 44) rfl (decide_eq_true c3) (by decide) ?_
        refine sd_b_go 1 (pc2 := 46) (lv2 := [(0, .inr (.inr (some (1)))), (1, .inl (v1)), (2, .inl (v2)), (4, .inl (v4)), (5, .inl (v5))]) (st2 := [.inl (v4)]) rfl ?_
        cases h
        exact sd_b_rt rfl rfl rfl
      · rw [if_neg c3] at h
        refine sd_b_cf (c := .lt) rfl (decide_eq_false c3) (by decide) ?_
        refine sd_b_go 2 (pc2 := 28) (lv2 := [(0, .inr (.inr (some (1)))), (1, .inl (v1)), (2, .inl (v2)), (4, .inl (v4)), (5, .inl (v5))]) (st2 := [.inl (v5), .inr (.inr (some (1)))]) rfl ?_
        obtain ⟨r4, e4, h⟩ := sd_bnd h
        refine sd_b_call [.inr (.inr (some (1))), .inl (v5)] [] rfl rfl sd_i_X7_byteAt rfl rfl (Nat.le_of_ble_eq_true rfl) (sd_rc_v sd_o_1) (m_X7_byteAt (by omega) e4) ?_
        refine sd_b_go 1 (pc2 := 32) (lv2 := [(0, .inr (.inr (some (1)))), (1, .inl (v1)), (2, .inl (v2)), (4, .inl (v4)), (5, .inl (v5))]) (st2 := [.inl (v2), .inl (r4.1)]) rfl ?_
        by_cases c5 : v2 < r4.1
        · rw [if_pos c5] at h
          refine sd_b_ct (c := .gt) (tgt := 44) rfl (decide_eq_true c5) (by decide) ?_
          refine sd_b_go 1 (pc2 := 46) (lv2 := [(0, .inr (.inr (some (1)))), (1, .inl (v1)), (2, .inl (v2)), (4, .inl (v4)), (5, .inl (v5))]) (st2 := [.inl (v4)]) rfl ?_
          cases h
          exact sd_b_rt rfl rfl rfl
        · rw [if_neg c5] at h
          refine sd_b_cf (c := .gt) rfl (decide_eq_false c5) (by decide) ?_
          refine sd_b_go 3 (pc2 := 6) (lv2 := [(5, .inl (sd_w (v5 + 1))), (4, .inl (sd_w (v4 + 1))), (0, .inr (.inr (some (1)))), (1, .inl (v1)), (2, .inl (v2))]) (st2 := []) rfl ?_
          refine sd_b_wk [(0, .inr (.inr (some (1)))), (1, .inl (v1)), (2, .inl (v2)), (4, .inl (sd_w (v4 + 1))), (5, .inl (sd_w (v5 + 1)))] (List.forall_mem_cons.mpr ⟨rfl, (List.forall_mem_cons.mpr ⟨rfl, (List.forall_mem_cons.mpr ⟨rfl, (List.forall_mem_cons.mpr ⟨rfl, (List.forall_mem_cons.mpr ⟨rfl, (fun _ h0 => absurd h0 List.not_mem_nil)⟩)⟩)⟩)⟩)⟩) ?_
          exact ih v1 v2 (sd_w (v4 + 1)) (sd_w (v5 + 1)) r4.2 _ h
def f_X7_runOf (p1 : Int) (p2 : Int) (p3 : Int) (M : sd_M) : Option (Int × sd_M) := f_X7_runOf_6 4000 p1 p2 0 p3 M
set_option maxRecDepth 4000 in
theorem t_X7_runOf {X : Nat → List sd_V → List sd_E → sd_A → Prop} {d : Nat} (hd : 1 ≤ d) (p1 : Int) (p2 : Int) (p3 : Int) (M : sd_M) (Rr : Int × sd_M) (h : f_X7_runOf p1 p2 p3 M = some Rr) : sd_B X d sd_q_X7_runOf 0 [(0, .inr (.inr (some (1)))), (1, .inl (p1)), (2, .inl (p2)), (3, .inl (p3))] [] M (some (.inl Rr.1), sd_rp Rr.2, 0, 0) := by
  unfold f_X7_runOf at h
  refine sd_b_go 4 (pc2 := 6) (lv2 := [(5, .inl (p3)), (4, .inl (0)), (0, .inr (.inr (some (1)))), (1, .inl (p1)), (2, .inl (p2)), (3, .inl (p3))]) (st2 := []) rfl ?_
  refine sd_b_wk [(0, .inr (.inr (some (1)))), (1, .inl (p1)), (2, .inl (p2)), (4, .inl (0)), (5, .inl (p3))] (List.forall_mem_cons.mpr ⟨rfl, (List.forall_mem_cons.mpr ⟨rfl, (List.forall_mem_cons.mpr ⟨rfl, (List.forall_mem_cons.mpr ⟨rfl, (List.forall_mem_cons.mpr ⟨rfl, (fun _ h0 => absurd h0 List.not_mem_nil)⟩)⟩)⟩)⟩)⟩) ?_
  exact t_X7_runOf_6 hd 4000 p1 p2 0 p3 M _ h
theorem m_X7_runOf {X : Nat → List sd_V → List sd_E → sd_A → Prop} {d : Nat} (hd : 2 ≤ d) {p1 : Int} {p2 : Int} {p3 : Int} {M : sd_M} {Rr : Int × sd_M} (h : f_X7_runOf p1 p2 p3 M = some Rr) : sd_Cal X d 59 [.inr (.inr (some (1))), .inl (p1), .inl (p2), .inl (p3)] (sd_rp M) (some (.inl Rr.1), sd_rp Rr.2, 0, 0) := by
  obtain ⟨d, rfl⟩ : ∃ d2, d = d2 + 1 := ⟨d - 1, by omega⟩
  exact sd_cal_of sd_i_X7_runOf (Nat.le_of_ble_eq_true rfl) (t_X7_runOf (by omega) p1 p2 p3 M Rr h)
-- X7_numberAt
def sd_q_X7_numberAt : sd_MI := (yX7_numberAt, cX7_numberAt, 5, (some .int), 7, 2, sd_t_X7_numberAt)
set_option maxRecDepth 4000 in
theorem sd_i_X7_numberAt : sd_mL[60]? = some sd_q_X7_numberAt := rfl
def f_X7_numberAt_5 (k40 : Int → Int → sd_M → Option (Int × sd_M)) : Nat → Int → Int → Int → Int → sd_M → Option (Int × sd_M)
  | 0, _, _, _, _, _ => none
  | n + 1, v1, v2, v3, v4, M => if v2 ≤ v4 then (k40 v2 v3 M) else (if 5 ≤ v4 then (k40 v2 v3 M) else ((f_X7_byteAt (sd_w (v1 + v4)) M).bind fun r3 => f_X7_numberAt_5 k40 n v1 v2 (sd_w ((sd_w ((sd_w (v3 * 10)) + r3.1)) - 48)) (sd_w (v4 + 1)) r3.2))
set_option maxRecDepth 4000 in
theorem t_X7_numberAt_5 {X : Nat → List sd_V → List sd_E → sd_A → Prop} {d : Nat} (hd : 1 ≤ d) (k40 : Int → Int → sd_M → Option (Int × sd_M)) (hk40 : ∀ (v2 : Int) (v3 : Int) (M : sd_M) (Rr : Int × sd_M), k40 v2 v3 M = some Rr → sd_B X d sd_q_X7_numberAt 40 [(2, .inl (v2)), (3, .inl (v3))] [] M (some (.inl Rr.1), sd_rp Rr.2, 0, 0)) : ∀ (n : Nat) (v1 : Int) (v2 : Int) (v3 : Int) (v4 : Int) (M : sd_M) (Rr : Int × sd_M), f_X7_numberAt_5 k40 n v1 v2 v3 v4 M = some Rr → sd_B X d sd_q_X7_numberAt 5 [(0, .inr (.inr (some (1)))), (1, .inl (v1)), (2, .inl (v2)), (3, .inl (v3)), (4, .inl (v4))] [] M (some (.inl Rr.1), sd_rp Rr.2, 0, 0) := by
  intro n
  induction n with
  | zero => intro v1 v2 v3 v4 M Rr h; cases h
  | succ n ih =>
    intro v1 v2 v3 v4 M Rr h
    rw [f_X7_numberAt_5] at h
    refine sd_b_go 2 (pc2 := 8) (lv2 := [(0, .inr (.inr (some (1)))), (1, .inl (v1)), (2, .inl (v2)), (3, .inl (v3)), (4, .inl (v4))]) (st2 := [.inl (v2), .inl (v4)]) rfl ?_
    by_cases c1 : v2 ≤ v4
    · rw [if_pos c1] at h
      refine sd_b_ct (c := .ge) (tgt := 40) rfl (decide_eq_true c1) (by decide) ?_
      refine sd_b_wk [(2, .inl (v2)), (3, .inl (v3))] (List.forall_mem_cons.mpr ⟨rfl, (List.forall_mem_cons.mpr ⟨rfl, (fun _ h0 => absurd h0 List.not_mem_nil)⟩)⟩) ?_
      exact hk40 v2 v3 M _ h
    · rw [if_neg c1] at h
      refine sd_b_cf (c := .ge) rfl (decide_eq_false c1) (by decide) ?_
      refine sd_b_go 2 (pc2 := 14) (lv2 := [(0, .inr (.inr (some (1)))), (1, .inl (v1)), (2, .inl (v2)), (3, .inl (v3)), (4, .inl (v4))]) (st2 := [.inl (5), .inl (v4)]) rfl ?_
      by_cases c2 : 5 ≤ v4
      · rw [if_pos c2] at h
        refine sd_b_ct (c := .ge) (tgt := 40) rfl (decide_eq_true c2) (by decide) ?_
        refine sd_b_wk [(2, .inl (v2)), (3, .inl (v3))] (List.forall_mem_cons.mpr ⟨rfl, (List.forall_mem_cons.mpr ⟨rfl, (fun _ h0 => absurd h0 List.not_mem_nil)⟩)⟩) ?_
        exact hk40 v2 v3 M _ h
      · rw [if_neg c2] at h
        refine sd_b_cf (c := .ge) rfl (decide_eq_false c2) (by decide) ?_
        refine sd_b_go 7 (pc2 := 26) (lv2 := [(0, .inr (.inr (some (1)))), (1, .inl (v1)), (2, .inl (v2)), (3, .inl (v3)), (4, .inl (v4))]) (st2 := [.inl (sd_w (v1 + v4)), .inr (.inr (some (1))), .inl (sd_w (v3 * 10))]) rfl ?_
        obtain ⟨r3, e3, h⟩ := sd_bnd h
        refine sd_b_call [.inr (.inr (some (1))), .inl (sd_w (v1 + v4))] [.inl (sd_w (v3 * 10))] rfl rfl sd_i_X7_byteAt rfl rfl (Nat.le_of_ble_eq_true rfl) (sd_rc_v sd_o_1) (m_X7_byteAt (by omega) e3) ?_
        refine sd_b_go 6 (pc2 := 5) (lv2 := [(4, .inl (sd_w (v4 + 1))), (3, .inl (sd_w ((sd_w ((sd_w (v3 * 10)) + r3.1)) - 48))), (0, .inr (.inr (some (1)))), (1, .inl (v1)), (2, .inl (v2))]) (st2 := []) rfl ?_
        refine sd_b_wk [(0, .inr (.inr (some (1)))), (1, .inl (v1)), (2, .inl (v2)), (3, .inl (sd_w ((sd_w ((sd_w (v3 * 10)) + r3.1)) - 48))), (4, .inl (sd_w (v4 + 1)))] (List.forall_mem_cons.mpr ⟨rfl, (List.forall_mem_cons.mpr ⟨rfl, (List.forall_mem_cons.mpr ⟨rfl, (List.forall_mem_cons.mpr ⟨rfl, (List.forall_mem_cons.mpr ⟨rfl, (fun _ h0 => absurd h0 List.not_mem_nil)⟩)⟩)⟩)⟩)⟩) ?_
        exact ih v1 v2 (sd_w ((sd_w ((sd_w (v3 * 10)) + r3.1)) - 48)) (sd_w (v4 + 1)) r3.2 _ h
def f_X7_numberAt_40 (v2 : Int) (v3 : Int) (M : sd_M) : Option (Int × sd_M) := if v2 ≤ 5 then (some (v3, M)) else (some ((-1), M))
set_option maxRecDepth 4000 in
theorem t_X7_numberAt_40 {X : Nat → List sd_V → List sd_E → sd_A → Prop} {d : Nat} (hd : 1 ≤ d) (v2 : Int) (v3 : Int) (M : sd_M) (Rr : Int × sd_M) (h : f_X7_numberAt_40 v2 v3 M = some Rr) : sd_B X d sd_q_X7_numberAt 40 [(2, .inl (v2)), (3, .inl (v3))] [] M (some (.inl Rr.1), sd_rp Rr.2, 0, 0) := by
  unfold f_X7_numberAt_40 at h
  refine sd_b_go 2 (pc2 := 42) (lv2 := [(2, .inl (v2)), (3, .inl (v3))]) (st2 := [.inl (5), .inl (v2)]) rfl ?_
  by_cases c1 : v2 ≤ 5
  · rw [if_pos c1] at h
    refine sd_b_ct (c := .le) (tgt := 49) rfl (decide_eq_true c1) (by decide) ?_
    refine sd_b_go 1 (pc2 := 50) (lv2 := [(2, .inl (v2)), (3, .inl (v3))]) (st2 := [.inl (v3)]) rfl ?_
    cases h
    exact sd_b_rt rfl rfl rfl
  · rw [if_neg c1] at h
    refine sd_b_cf (c := .le) rfl (decide_eq_false c1) (by decide) ?_
    refine sd_b_go 2 (pc2 := 50) (lv2 := [(2, .inl (v2)), (3, .inl (v3))]) (st2 := [.inl ((-1))]) rfl ?_
    cases h
    exact sd_b_rt rfl rfl rfl
def f_X7_numberAt (p1 : Int) (p2 : Int) (M : sd_M) : Option (Int × sd_M) := f_X7_numberAt_5 (f_X7_numberAt_40) 4000 p1 p2 0 0 M
set_option maxRecDepth 4000 in
theorem t_X7_numberAt {X : Nat → List sd_V → List sd_E → sd_A → Prop} {d : Nat} (hd : 1 ≤ d) (p1 : Int) (p2 : Int) (M : sd_M) (Rr : Int × sd_M) (h : f_X7_numberAt p1 p2 M = some Rr) : sd_B X d sd_q_X7_numberAt 0 [(0, .inr (.inr (some (1)))), (1, .inl (p1)), (2, .inl (p2))] [] M (some (.inl Rr.1), sd_rp Rr.2, 0, 0) := by
  unfold f_X7_numberAt at h
  refine sd_b_go 4 (pc2 := 5) (lv2 := [(4, .inl (0)), (3, .inl (0)), (0, .inr (.inr (some (1)))), (1, .inl (p1)), (2, .inl (p2))]) (st2 := []) rfl ?_
  refine sd_b_wk [(0, .inr (.inr (some (1)))), (1, .inl (p1)), (2, .inl (p2)), (3, .inl (0)), (4, .inl (0))] (List.forall_mem_cons.mpr ⟨rfl, (List.forall_mem_cons.mpr ⟨rfl, (List.forall_mem_cons.mpr ⟨rfl, (List.forall_mem_cons.mpr ⟨rfl, (List.forall_mem_cons.mpr ⟨rfl, (fun _ h0 => absurd h0 List.not_mem_nil)⟩)⟩)⟩)⟩)⟩) ?_
  exact t_X7_numberAt_5 hd (f_X7_numberAt_40) (t_X7_numberAt_40 hd) 4000 p1 p2 0 0 M _ h
theorem m_X7_numberAt {X : Nat → List sd_V → List sd_E → sd_A → Prop} {d : Nat} (hd : 2 ≤ d) {p1 : Int} {p2 : Int} {M : sd_M} {Rr : Int × sd_M} (h : f_X7_numberAt p1 p2 M = some Rr) : sd_Cal X d 60 [.inr (.inr (some (1))), .inl (p1), .inl (p2)] (sd_rp M) (some (.inl Rr.1), sd_rp Rr.2, 0, 0) := by
  obtain ⟨d, rfl⟩ : ∃ d2, d = d2 + 1 := ⟨d - 1, by omega⟩
  exact sd_cal_of sd_i_X7_numberAt (Nat.le_of_ble_eq_true rfl) (t_X7_numberAt (by omega) p1 p2 M Rr h)
-- X7_wordAt
def sd_q_X7_wordAt : sd_MI := (yX7_wordAt, cX7_wordAt, 8, (some .int), 7, 2, sd_t_X7_wordAt)
set_option maxRecDepth 4000 in
theorem sd_i_X7_wordAt : sd_mL[61]? = some sd_q_X7_wordAt := rfl
def f_X7_wordAt_96 (k11 : Int → Int → Int → Int → Int → Int → sd_M → Option (Int × sd_M)) (v1 : Int) (v2 : Int) (v3 : Int) (v4 : Int) (v5 : Int) (v6 : Int) (M : sd_M) : Option (Int × sd_M) := k11 v1 v2 v3 v4 v5 (sd_w (v6 + 1)) M
set_option maxRecDepth 4000 in
theorem t_X7_wordAt_96 {X : Nat → List sd_V → List sd_E → sd_A → Prop} {d : Nat} (hd : 1 ≤ d) (k11 : Int → Int → Int → Int → Int → Int → sd_M → Option (Int × sd_M)) (hk11 : ∀ (v1 : Int) (v2 : Int) (v3 : Int) (v4 : Int) (v5 : Int) (v6 : Int) (M : sd_M) (Rr : Int × sd_M), k11 v1 v2 v3 v4 v5 v6 M = some Rr → sd_B X d sd_q_X7_wordAt 11 [(0, .inr (.inr (some (1)))), (1, .inl (v1)), (2, .inl (v2)), (3, .inl (v3)), (4, .inl (v4)), (5, .inl (v5)), (6, .inl (v6))] [] M (some (.inl Rr.1), sd_rp Rr.2, 0, 0)) (v1 : Int) (v2 : Int) (v3 : Int) (v4 : Int) (v5 : Int) (v6 : Int) (M : sd_M) (Rr : Int × sd_M) (h : f_X7_wordAt_96 k11 v1 v2 v3 v4 v5 v6 M = some Rr) : sd_B X d sd_q_X7_wordAt 96 [(0, .inr (.inr (some (1)))), (1, .inl (v1)), (2, .inl (v2)), (3, .inl (v3)), (4, .inl (v4)), (5, .inl (v5)), (6, .inl (v6))] [] M (some (.inl Rr.1), sd_rp Rr.2, 0, 0) := by
  unfold f_X7_wordAt_96 at h
  refine sd_b_go 2 (pc2 := 11) (lv2 := [(6, .inl (sd_w (v6 + 1))), (0, .inr (.inr (some (1)))), (1, .inl (v1)), (2, .inl (v2)), (3, .inl (v3)), (4, .inl (v4)), (5, .inl (v5))]) (st2 := []) rfl ?_
  refine sd_b_wk [(0, .inr (.inr (some (1)))), (1, .inl (v1)), (2, .inl (v2)), (3, .inl (v3)), (4, .inl (v4)), (5, .inl (v5)), (6, .inl (sd_w (v6 + 1)))] (List.forall_mem_cons.mpr ⟨rfl, (List.forall_mem_cons.mpr ⟨rfl, (List.forall_mem_cons.mpr ⟨rfl, (List.forall_mem_cons.mpr ⟨rfl, (List.forall_mem_cons.mpr ⟨rfl, (List.forall_mem_cons.mpr ⟨rfl, (List.forall_mem_cons.mpr ⟨rfl, (fun _ h0 => absurd h0 List.not_mem_nil)⟩)⟩)⟩)⟩)⟩)⟩)⟩) ?_
  exact hk11 v1 v2 v3 v4 v5 (sd_w (v6 + 1)) M _ h
def f_X7_wordAt_87 (k11 : Int → Int → Int → Int → Int → Int → sd_M → Option (Int × sd_M)) (v1 : Int) (v2 : Int) (v3 : Int) (v6 : Int) (M : sd_M) : Option (Int × sd_M) := f_X7_wordAt_96 k11 v1 v2 (sd_w (v3 + 1)) 0 1 v6 M
set_option maxRecDepth 4000 in
theorem t_X7_wordAt_87 {X : Nat → List sd_V → List sd_E → sd_A → Prop} {d : Nat} (hd : 1 ≤ d) (k11 : Int → Int → Int → Int → Int → Int → sd_M → Option (Int × sd_M)) (hk11 : ∀ (v1 : Int) (v2 : Int) (v3 : Int) (v4 : Int) (v5 : Int) (v6 : Int) (M : sd_M) (Rr : Int × sd_M), k11 v1 v2 v3 v4 v5 v6 M = some Rr → sd_B X d sd_q_X7_wordAt 11 [(0, .inr (.inr (some (1)))), (1, .inl (v1)), (2, .inl (v2)), (3, .inl (v3)), (4, .inl (v4)), (5, .inl (v5)), (6, .inl (v6))] [] M (some (.inl Rr.1), sd_rp Rr.2, 0, 0)) (v1 : Int) (v2 : Int) (v3 : Int) (v6 : Int) (M : sd_M) (Rr : Int × sd_M) (h : f_X7_wordAt_87 k11 v1 v2 v3 v6 M = some Rr) : sd_B X d sd_q_X7_wordAt 87 [(0, .inr (.inr (some (1)))), (1, .inl (v1)), (2, .inl (v2)), (3, .inl (v3)), (6, .inl (v6))] [] M (some (.inl Rr.1), sd_rp Rr.2, 0, 0) := by
  unfold f_X7_wordAt_87 at h
  refine sd_b_go 5 (pc2 := 96) (lv2 := [(5, .inl (1)), (4, .inl (0)), (3, .inl (sd_w (v3 + 1))), (0, .inr (.inr (some (1)))), (1, .inl (v1)), (2, .inl (v2)), (6, .inl (v6))]) (st2 := []) rfl ?_
  refine sd_b_wk [(0, .inr (.inr (some (1)))), (1, .inl (v1)), (2, .inl (v2)), (3, .inl (sd_w (v3 + 1))), (4, .inl (0)), (5, .inl (1)), (6, .inl (v6))] (List.forall_mem_cons.mpr ⟨rfl, (List.forall_mem_cons.mpr ⟨rfl, (List.forall_mem_cons.mpr ⟨rfl, (List.forall_mem_cons.mpr ⟨rfl, (List.forall_mem_cons.mpr ⟨rfl, (List.forall_mem_cons.mpr ⟨rfl, (List.forall_mem_cons.mpr ⟨rfl, (fun _ h0 => absurd h0 List.not_mem_nil)⟩)⟩)⟩)⟩)⟩)⟩)⟩) ?_
  exact t_X7_wordAt_96 hd k11 hk11 v1 v2 (sd_w (v3 + 1)) 0 1 v6 M _ h
def f_X7_wordAt_66 (k11 : Int → Int → Int → Int → Int → Int → sd_M → Option (Int × sd_M)) (v1 : Int) (v2 : Int) (v3 : Int) (v4 : Int) (v6 : Int) (s0 : Int) (M : sd_M) : Option (Int × sd_M) := f_X7_wordAt_96 k11 v1 v2 v3 (sd_w (v4 + 1)) s0 v6 M
set_option maxRecDepth 4000 in
theorem t_X7_wordAt_66 {X : Nat → List sd_V → List sd_E → sd_A → Prop} {d : Nat} (hd : 1 ≤ d) (k11 : Int → Int → Int → Int → Int → Int → sd_M → Option (Int × sd_M)) (hk11 : ∀ (v1 : Int) (v2 : Int) (v3 : Int) (v4 : Int) (v5 : Int) (v6 : Int) (M : sd_M) (Rr : Int × sd_M), k11 v1 v2 v3 v4 v5 v6 M = some Rr → sd_B X d sd_q_X7_wordAt 11 [(0, .inr (.inr (some (1)))), (1, .inl (v1)), (2, .inl (v2)), (3, .inl (v3)), (4, .inl (v4)), (5, .inl (v5)), (6, .inl (v6))] [] M (some (.inl Rr.1), sd_rp Rr.2, 0, 0)) (v1 : Int) (v2 : Int) (v3 : Int) (v4 : Int) (v6 : Int) (s0 : Int) (M : sd_M) (Rr : Int × sd_M) (h : f_X7_wordAt_66 k11 v1 v2 v3 v4 v6 s0 M = some Rr) : sd_B X d sd_q_X7_wordAt 66 [(0, .inr (.inr (some (1)))), (1, .inl (v1)), (2, .inl (v2)), (3, .inl (v3)), (4, .inl (v4)), (6, .inl (v6))] [.inl (s0)] M (some (.inl Rr.1), sd_rp Rr.2, 0, 0) := by
  unfold f_X7_wordAt_66 at h
  refine sd_b_go 3 (pc2 := 96) (lv2 := [(4, .inl (sd_w (v4 + 1))), (5, .inl (s0)), (0, .inr (.inr (some (1)))), (1, .inl (v1)), (2, .inl (v2)), (3, .inl (v3)), (6, .inl (v6))]) (st2 := []) rfl ?_
  refine sd_b_wk [(0, .inr (.inr (some (1)))), (1, .inl (v1)), (2, .inl (v2)), (3, .inl (v3)), (4, .inl (sd_w (v4 + 1))), (5, .inl (s0)), (6, .inl (v6))] (List.forall_mem_cons.mpr ⟨rfl, (List.forall_mem_cons.mpr ⟨rfl, (List.forall_mem_cons.mpr ⟨rfl, (List.forall_mem_cons.mpr ⟨rfl, (List.forall_mem_cons.mpr ⟨rfl, (List.forall_mem_cons.mpr ⟨rfl, (List.forall_mem_cons.mpr ⟨rfl, (fun _ h0 => absurd h0 List.not_mem_nil)⟩)⟩)⟩)⟩)⟩)⟩)⟩) ?_
  exact t_X7_wordAt_96 hd k11 hk11 v1 v2 v3 (sd_w (v4 + 1)) s0 v6 M _ h
def f_X7_wordAt_65 (k11 : Int → Int → Int → Int → Int → Int → sd_M → Option (Int × sd_M)) (v1 : Int) (v2 : Int) (v3 : Int) (v4 : Int) (v6 : Int) (M : sd_M) : Option (Int × sd_M) := f_X7_wordAt_66 k11 v1 v2 v3 v4 v6 0 M
set_option maxRecDepth 4000 in
theorem t_X7_wordAt_65 {X : Nat → List sd_V → List sd_E → sd_A → Prop} {d : Nat} (hd : 1 ≤ d) (k11 : Int → Int → Int → Int → Int → Int → sd_M → Option (Int × sd_M)) (hk11 : ∀ (v1 : Int) (v2 : Int) (v3 : Int) (v4 : Int) (v5 : Int) (v6 : Int) (M : sd_M) (Rr : Int × sd_M), k11 v1 v2 v3 v4 v5 v6 M = some Rr → sd_B X d sd_q_X7_wordAt 11 [(0, .inr (.inr (some (1)))), (1, .inl (v1)), (2, .inl (v2)), (3, .inl (v3)), (4, .inl (v4)), (5, .inl (v5)), (6, .inl (v6))] [] M (some (.inl Rr.1), sd_rp Rr.2, 0, 0)) (v1 : Int) (v2 : Int) (v3 : Int) (v4 : Int) (v6 : Int) (M : sd_M) (Rr : Int × sd_M) (h : f_X7_wordAt_65 k11 v1 v2 v3 v4 v6 M = some Rr) : sd_B X d sd_q_X7_wordAt 65 [(0, .inr (.inr (some (1)))), (1, .inl (v1)), (2, .inl (v2)), (3, .inl (v3)), (4, .inl (v4)), (6, .inl (v6))] [] M (some (.inl Rr.1), sd_rp Rr.2, 0, 0) := by
  unfold f_X7_wordAt_65 at h
  refine sd_b_go 1 (pc2 := 66) (lv2 := [(0, .inr (.inr (some (1)))), (1, .inl (v1)), (2, .inl (v2)), (3, .inl (v3)), (4, .inl (v4)), (6, .inl (v6))]) (st2 := [.inl (0)]) rfl ?_
  refine sd_b_wk [(0, .inr (.inr (some (1)))), (1, .inl (v1)), (2, .inl (v2)), (3, .inl (v3)), (4, .inl (v4)), (6, .inl (v6))] (List.forall_mem_cons.mpr ⟨rfl, (List.forall_mem_cons.mpr ⟨rfl, (List.forall_mem_cons.mpr ⟨rfl, (List.forall_mem_cons.mpr ⟨rfl, (List.forall_mem_cons.mpr ⟨rfl, (List.forall_mem_cons.mpr ⟨rfl, (fun _ h0 => absurd h0 List.not_mem_nil)⟩)⟩)⟩)⟩)⟩)⟩) ?_
  exact t_X7_wordAt_66 hd k11 hk11 v1 v2 v3 v4 v6 0 M _ h
def f_X7_wordAt_11 : Nat → Int → Int → Int → Int → Int → Int → sd_M → Option (Int × sd_M)
  | 0, _, _, _, _, _, _, _ => none
  | n + 1, v1, v2, v3, v4, v5, v6, M => if 92 ≤ v6 then (some (99, M)) else (if 0 ≤ v6 ∧ v6 < 92 then (if (sd_word v6.toNat) = 32 then (if v5 = 0 then (f_X7_wordAt_87 (f_X7_wordAt_11 n) v1 v2 v3 v6 M) else (if v4 = v2 then (some (v3, M)) else (f_X7_wordAt_87 (f_X7_wordAt_11 n) v1 v2 v3 v6 M))) else (if v5 = 0 then (f_X7_wordAt_65 (f_X7_wordAt_11 n) v1 v2 v3 v4 v6 M) else (if v2 ≤ v4 then (f_X7_wordAt_65 (f_X7_wordAt_11 n) v1 v2 v3 v4 v6 M) else ((f_X7_byteAt (sd_w (v1 + v4)) M).bind fun r8 => if r8.1 = (sd_word v6.toNat) then (f_X7_wordAt_66 (f_X7_wordAt_11 n) v1 v2 v3 v4 v6 1 r8.2) else (f_X7_wordAt_65 (f_X7_wordAt_11 n) v1 v2 v3 v4 v6 r8.2))))) else none)
set_option maxRecDepth 4000 in
theorem t_X7_wordAt_11 {X : Nat → List sd_V → List sd_E → sd_A → Prop} {d : Nat} (hd : 1 ≤ d) : ∀ (n : Nat) (v1 : Int) (v2 : Int) (v3 : Int) (v4 : Int) (v5 : Int) (v6 : Int) (M : sd_M) (Rr : Int × sd_M), f_X7_wordAt_11 n v1 v2 v3 v4 v5 v6 M = some Rr → sd_B X d sd_q_X7_wordAt 11 [(0, .inr (.inr (some (1)))), (1, .inl (v1)), (2, .inl (v2)), (3, .inl (v3)), (4, .inl (v4)), (5, .inl (v5)), (6, .inl (v6))] [] M (some (.inl Rr.1), sd_rp Rr.2, 0, 0) := by
  intro n
  induction n with
  | zero => intro v1 v2 v3 v4 v5 v6 M Rr h; cases h
  | succ n ih =>
    intro v1 v2 v3 v4 v5 v6 M Rr h
    rw [f_X7_wordAt_11] at h
    refine sd_b_go 1 (pc2 := 13) (lv2 := [(0, .inr (.inr (some (1)))), (1, .inl (v1)), (2, .inl (v2)), (3, .inl (v3)), (4, .inl (v4)), (5, .inl (v5)), (6, .inl (v6))]) (st2 := [.inl (v6)]) rfl ?_
    refine sd_b_y (pc2 := 18) (lv2 := [(0, .inr (.inr (some (1)))), (1, .inl (v1)), (2, .inl (v2)), (3, .inl (v3)), (4, .inl (v4)), (5, .inl (v5)), (6, .inl (v6))]) (st2 := [.inl (92), .inl (v6)]) rfl ?_
    by_cases c1 : 92 ≤ v6
    · rw [if_pos c1] at h
      refine sd_b_ct (c := .ge) (tgt := 102) rfl (decide_eq_true c1) (by decide) ?_
      refine sd_b_go 1 (pc2 := 104) (lv2 := [(0, .inr (.inr (some (1)))), (1, .inl (v1)), (2, .inl (v2)), (3, .inl (v3)), (4, .inl (v4)), (5, .inl (v5)), (6, .inl (v6))]) (st2 := [.inl (99)]) rfl ?_
      cases h
      exact sd_b_rt rfl rfl rfl
    · rw [if_neg c1] at h
      refine sd_b_cf (c := .ge) rfl (decide_eq_false c1) (by decide) ?_
      obtain ⟨g2, h⟩ := sd_if h
      refine sd_b_ch (i := 6) rfl rfl rfl rfl rfl (Nat.le_of_ble_eq_true rfl) g2 ?_
      refine sd_b_go 3 (pc2 := 34) (lv2 := [(7, .inl (sd_word v6.toNat)), (0, .inr (.inr (some (1)))), (1, .inl (v1)), (2, .inl (v2)), (3, .inl (v3)), (4, .inl (v4)), (5, .inl (v5)), (6, .inl (v6))]) (st2 := [.inl (32), .inl (sd_word v6.toNat)]) rfl ?_
      by_cases c3 : (sd_word v6.toNat) = 32
      · rw [if_pos c3] at h
        refine sd_b_ct (c := .eq) (tgt := 74) rfl (decide_eq_true c3) (by decide) ?_
        refine sd_b_go 1 (pc2 := 76) (lv2 := [(7, .inl (sd_word v6.toNat)), (0, .inr (.inr (some (1)))), (1, .inl (v1)), (2, .inl (v2)), (3, .inl (v3)), (4, .inl (v4)), (5, .inl (v5)), (6, .inl (v6))]) (st2 := [.inl (v5)]) rfl ?_
        by_cases c4 : v5 = 0
        · rw [if_pos c4] at h
          refine sd_b_zt (c := .eq) (tgt := 87) rfl (decide_eq_true c4) (by decide) ?_
          refine sd_b_wk [(0, .inr (.inr (some (1)))), (1, .inl (v1)), (2, .inl (v2)), (3, .inl (v3)), (6, .inl (v6))] (List.forall_mem_cons.mpr ⟨rfl, (List.forall_mem_cons.mpr ⟨rfl, (List.forall_mem_cons.mpr ⟨rfl, (List.forall_mem_cons.mpr ⟨rfl, (List.forall_mem_cons.mpr ⟨rfl, (fun _ h0 => absurd h0 List.not_mem_nil)⟩)⟩)⟩)⟩)⟩) ?_
          exact t_X7_wordAt_87 hd (f_X7_wordAt_11 n) ih v1 v2 v3 v6 M _ h
        · rw [if_neg c4] at h
          refine sd_b_zf (c := .eq) rfl (decide_eq_false c4) (by decide) ?_
          refine sd_b_go 2 (pc2 := 82) (lv2 := [(7, .inl (sd_word v6.toNat)), (0, .inr (.inr (some (1)))), (1, .inl (v1)), (2, .inl (v2)), (3, .inl (v3)), (4, .inl (v4)), (5, .inl (v5)), (6, .inl (v6))]) (st2 := [.inl (v2), .inl (v4)]) rfl ?_
          by_cases c5 : v4 = v2
          · rw [if_pos c5] at h
            refine sd_b_cf (c := .ne) rfl (decide_eq_false (not_not_intro c5)) (by decide) ?_
            refine sd_b_go 1 (pc2 := 86) (lv2 := [(7, .inl (sd_word v6.toNat)), (0, .inr (.inr (some (1)))), (1, .inl (v1)), (2, .inl (v2)), (3, .inl (v3)), (4, .inl (v4)), (5, .inl (v5)), (6, .inl (v6))]) (st2 := [.inl (v3)]) rfl ?_
            cases h
            exact sd_b_rt rfl rfl rfl
          · rw [if_neg c5] at h
            refine sd_b_ct (c := .ne) (tgt := 87) rfl (decide_eq_true c5) (by decide) ?_
            refine sd_b_wk [(0, .inr (.inr (some (1)))), (1, .inl (v1)), (2, .inl (v2)), (3, .inl (v3)), (6, .inl (v6))] (List.forall_mem_cons.mpr ⟨rfl, (List.forall_mem_cons.mpr ⟨rfl, (List.forall_mem_cons.mpr ⟨rfl, (List.forall_mem_cons.mpr ⟨rfl, (List.forall_mem_cons.mpr ⟨rfl, (fun _ h0 => absurd h0 List.not_mem_nil)⟩)⟩)⟩)⟩)⟩) ?_
            exact t_X7_wordAt_87 hd (f_X7_wordAt_11 n) ih v1 v2 v3 v6 M _ h
      · rw [if_neg c3] at h
        refine sd_b_cf (c := .eq) rfl (decide_eq_false c3) (by decide) ?_
        refine sd_b_go 1 (pc2 := 39) (lv2 := [(7, .inl (sd_word v6.toNat)), (0, .inr (.inr (some (1)))), (1, .inl (v1)), (2, .inl (v2)), (3, .inl (v3)), (4, .inl (v4)), (5, .inl (v5)), (6, .inl (v6))]) (st2 := [.inl (v5)]) rfl ?_
        by_cases c6 : v5 = 0
        · rw [if_pos c6] at h
          refine sd_b_zt (c := .eq) (tgt := 65) rfl (decide_eq_true c6) (by decide) ?_
          refine sd_b_wk [(0, .inr (.inr (some (1)))), (1, .inl (v1)), (2, .inl (v2)), (3, .inl (v3)), (4, .inl (v4)), (6, .inl (v6))] (List.forall_mem_cons.mpr ⟨rfl, (List.forall_mem_cons.mpr ⟨rfl, (List.forall_mem_cons.mpr ⟨rfl, (List.forall_mem_cons.mpr ⟨rfl, (List.forall_mem_cons.mpr ⟨rfl, (List.forall_mem_cons.mpr ⟨rfl, (fun _ h0 => absurd h0 List.not_mem_nil)⟩)⟩)⟩)⟩)⟩)⟩) ?_
          exact t_X7_wordAt_65 hd (f_X7_wordAt_11 n) ih v1 v2 v3 v4 v6 M _ h
        · rw [if_neg c6] at h
          refine sd_b_zf (c := .eq) rfl (decide_eq_false c6) (by decide) ?_
          refine sd_b_go 2 (pc2 := 45) (lv2 := [(7, .inl (sd_word v6.toNat)), (0, .inr (.inr (some (1)))), (1, .inl (v1)), (2, .inl (v2)), (3, .inl (v3)), (4, .inl (v4)), (5, .inl (v5)), (6, .inl (v6))]) (st2 := [.inl (v2), .inl (v4)]) rfl ?_
          by_cases c7 : v2 ≤ v4
          · rw [if_pos c7] at h
            refine sd_b_ct (c := .ge) (tgt := 65) rfl (decide_eq_true c7) (by decide) ?_
            refine sd_b_wk [(0, .inr (.inr (some (1)))), (1, .inl (v1)), (2, .inl (v2)), (3, .inl (v3)), (4, .inl (v4)), (6, .inl (v6))] (List.forall_mem_cons.mpr ⟨rfl, (List.forall_mem_cons.mpr ⟨rfl, (List.forall_mem_cons.mpr ⟨rfl, (List.forall_mem_cons.mpr ⟨rfl, (List.forall_mem_cons.mpr ⟨rfl, (List.forall_mem_cons.mpr ⟨rfl, (fun _ h0 => absurd h0 List.not_mem_nil)⟩)⟩)⟩)⟩)⟩)⟩) ?_
            exact t_X7_wordAt_65 hd (f_X7_wordAt_11 n) ih v1 v2 v3 v4 v6 M _ h
          · rw [if_neg c7] at h
            refine sd_b_cf (c := .ge) rfl (decide_eq_false c7) (by decide) ?_
            refine sd_b_go 4 (pc2 := 53) (lv2 := [(7, .inl (sd_word v6.toNat)), (0, .inr (.inr (some (1)))), (1, .inl (v1)), (2, .inl (v2)), (3, .inl (v3)), (4, .inl (v4)), (5, .inl (v5)), (6, .inl (v6))]) (st2 := [.inl (sd_w (v1 + v4)), .inr (.inr (some (1)))]) rfl ?_
            obtain ⟨r8, e8, h⟩ := sd_bnd h
            refine sd_b_call [.inr (.inr (some (1))), .inl (sd_w (v1 + v4))] [] rfl rfl sd_i_X7_byteAt rfl rfl (Nat.le_of_ble_eq_true rfl) (sd_rc_v sd_o_1) (m_X7_byteAt (by omega) e8) ?_
            refine sd_b_go 1 (pc2 := 58) (lv2 := [(7, .inl (sd_word v6.toNat)), (0, .inr (.inr (some (1)))), (1, .inl (v1)), (2, .inl (v2)), (3, .inl (v3)), (4, .inl (v4)), (5, .inl (v5)), (6, .inl (v6))]) (st2 := [.inl (sd_word v6.toNat), .inl (r8.1)]) rfl ?_
            by_cases c9 : r8.1 = (sd_word v6.toNat)
            · rw [if_pos c9] at h
              refine sd_b_cf (c := .ne) rfl (decide_eq_false (not_not_intro c9)) (by decide) ?_
              refine sd_b_go 2 (pc2 := 66) (lv2 := [(7, .inl (sd_word v6.toNat)), (0, .inr (.inr (some (1)))), (1, .inl (v1)), (2, .inl (v2)), (3, .inl (v3)), (4, .inl (v4)), (5, .inl (v5)), (6, .inl (v6))]) (st2 := [.inl (1)]) rfl ?_
              refine sd_b_wk [(0, .inr (.inr (some (1)))), (1, .inl (v1)), (2, .inl (v2)), (3, .inl (v3)), (4, .inl (v4)), (6, .inl (v6))] (List.forall_mem_cons.mpr ⟨rfl, (List.forall_mem_cons.mpr ⟨rfl, (List.forall_mem_cons.mpr ⟨rfl, (List.forall_mem_cons.mpr ⟨rfl, (List.forall_mem_cons.mpr ⟨rfl, (List.forall_mem_cons.mpr ⟨rfl, (fun _ h0 => absurd h0 List.not_mem_nil)⟩)⟩)⟩)⟩)⟩)⟩) ?_
              exact t_X7_wordAt_66 hd (f_X7_wordAt_11 n) ih v1 v2 v3 v4 v6 1 r8.2 _ h
            · rw [if_neg c9] at h
              refine sd_b_ct (c := .ne) (tgt := 65) rfl (decide_eq_true c9) (by decide) ?_
              refine sd_b_wk [(0, .inr (.inr (some (1)))), (1, .inl (v1)), (2, .inl (v2)), (3, .inl (v3)), (4, .inl (v4)), (6, .inl (v6))] (List.forall_mem_cons.mpr ⟨rfl, (List.forall_mem_cons.mpr ⟨rfl, (List.forall_mem_cons.mpr ⟨rfl, (List.forall_mem_cons.mpr ⟨rfl, (List.forall_mem_cons.mpr ⟨rfl, (List.forall_mem_cons.mpr ⟨rfl, (fun _ h0 => absurd h0 List.not_mem_nil)⟩)⟩)⟩)⟩)⟩)⟩) ?_
              exact t_X7_wordAt_65 hd (f_X7_wordAt_11 n) ih v1 v2 v3 v4 v6 r8.2 _ h
def f_X7_wordAt (p1 : Int) (p2 : Int) (M : sd_M) : Option (Int × sd_M) := f_X7_wordAt_11 4000 p1 p2 0 0 1 0 M
set_option maxRecDepth 4000 in
theorem t_X7_wordAt {X : Nat → List sd_V → List sd_E → sd_A → Prop} {d : Nat} (hd : 1 ≤ d) (p1 : Int) (p2 : Int) (M : sd_M) (Rr : Int × sd_M) (h : f_X7_wordAt p1 p2 M = some Rr) : sd_B X d sd_q_X7_wordAt 0 [(0, .inr (.inr (some (1)))), (1, .inl (p1)), (2, .inl (p2))] [] M (some (.inl Rr.1), sd_rp Rr.2, 0, 0) := by
  unfold f_X7_wordAt at h
  refine sd_b_go 8 (pc2 := 11) (lv2 := [(6, .inl (0)), (5, .inl (1)), (4, .inl (0)), (3, .inl (0)), (0, .inr (.inr (some (1)))), (1, .inl (p1)), (2, .inl (p2))]) (st2 := []) rfl ?_
  refine sd_b_wk [(0, .inr (.inr (some (1)))), (1, .inl (p1)), (2, .inl (p2)), (3, .inl (0)), (4, .inl (0)), (5, .inl (1)), (6, .inl (0))] (List.forall_mem_cons.mpr ⟨rfl, (List.forall_mem_cons.mpr ⟨rfl, (List.forall_mem_cons.mpr ⟨rfl, (List.forall_mem_cons.mpr ⟨rfl, (List.forall_mem_cons.mpr ⟨rfl, (List.forall_mem_cons.mpr ⟨rfl, (List.forall_mem_cons.mpr ⟨rfl, (fun _ h0 => absurd h0 List.not_mem_nil)⟩)⟩)⟩)⟩)⟩)⟩)⟩) ?_
  exact t_X7_wordAt_11 hd 4000 p1 p2 0 0 1 0 M _ h
theorem m_X7_wordAt {X : Nat → List sd_V → List sd_E → sd_A → Prop} {d : Nat} (hd : 2 ≤ d) {p1 : Int} {p2 : Int} {M : sd_M} {Rr : Int × sd_M} (h : f_X7_wordAt p1 p2 M = some Rr) : sd_Cal X d 61 [.inr (.inr (some (1))), .inl (p1), .inl (p2)] (sd_rp M) (some (.inl Rr.1), sd_rp Rr.2, 0, 0) := by
  obtain ⟨d, rfl⟩ : ∃ d2, d = d2 + 1 := ⟨d - 1, by omega⟩
  exact sd_cal_of sd_i_X7_wordAt (Nat.le_of_ble_eq_true rfl) (t_X7_wordAt (by omega) p1 p2 M Rr h)
-- X7_kind
def sd_q_X7_kind : sd_MI := (yX7_kind, cX7_kind, 1, (some .int), 7, 0, sd_t_X7_kind)
set_option maxRecDepth 4000 in
theorem sd_i_X7_kind : sd_mL[62]? = some sd_q_X7_kind := rfl
def f_X7_kind (M : sd_M) : Option (Int × sd_M) := if (M 1 3) ≤ (M 1 4) then (some (512, M)) else (if 0 ≤ (M 1 4) ∧ (M 1 4) < 401 then (some (M 3 (M 1 4).toNat, M)) else none)
set_option maxRecDepth 4000 in
theorem t_X7_kind {X : Nat → List sd_V → List sd_E → sd_A → Prop} {d : Nat} (hd : 0 ≤ d) (M : sd_M) (Rr : Int × sd_M) (h : f_X7_kind M = some Rr) : sd_B X d sd_q_X7_kind 0 [(0, .inr (.inr (some (1))))] [] M (some (.inl Rr.1), sd_rp Rr.2, 0, 0) := by
  unfold f_X7_kind at h
  refine sd_b_go 1 (pc2 := 1) (lv2 := [(0, .inr (.inr (some (1))))]) (st2 := [.inr (.inr (some (1)))]) rfl ?_
  refine sd_b_gi (k := 4) sd_o_1 rfl rfl rfl ?_
  refine sd_b_go 1 (pc2 := 5) (lv2 := [(0, .inr (.inr (some (1))))]) (st2 := [.inr (.inr (some (1))), .inl (M 1 4)]) rfl ?_
  refine sd_b_gi (k := 3) sd_o_1 rfl rfl rfl ?_
  by_cases c1 : (M 1 3) ≤ (M 1 4)
  · rw [if_pos c1] at h
    refine sd_b_ct (c := .ge) (tgt := 23) rfl (decide_eq_true c1) (by decide) ?_
    refine sd_b_go 1 (pc2 := 26) (lv2 := [(0, .inr (.inr (some (1))))]) (st2 := [.inl (512)]) rfl ?_
    cases h
    exact sd_b_rt rfl rfl rfl
  · rw [if_neg c1] at h
    refine sd_b_cf (c := .ge) rfl (decide_eq_false c1) (by decide) ?_
    refine sd_b_go 1 (pc2 := 12) (lv2 := [(0, .inr (.inr (some (1))))]) (st2 := [.inr (.inr (some (1)))]) rfl ?_
    refine sd_b_gr (k := 5) sd_o_1 rfl rfl rfl ?_
    refine sd_b_go 1 (pc2 := 16) (lv2 := [(0, .inr (.inr (some (1))))]) (st2 := [.inr (.inr (some (1))), .inr (.inr (some (3)))]) rfl ?_
    refine sd_b_gi (k := 4) sd_o_1 rfl rfl rfl ?_
    obtain ⟨g2, h⟩ := sd_if h
    refine sd_b_ai (sd_oa sd_o_1 (by decide) (off := 2) (List.mem_of_getElem? (i := 1) rfl)) g2 rfl ?_
    refine sd_b_go 1 (pc2 := 26) (lv2 := [(0, .inr (.inr (some (1))))]) (st2 := [.inl (M 3 (M 1 4).toNat)]) rfl ?_
    cases h
    exact sd_b_rt rfl rfl rfl
theorem m_X7_kind {X : Nat → List sd_V → List sd_E → sd_A → Prop} {d : Nat} (hd : 1 ≤ d) {M : sd_M} {Rr : Int × sd_M} (h : f_X7_kind M = some Rr) : sd_Cal X d 62 [.inr (.inr (some (1)))] (sd_rp M) (some (.inl Rr.1), sd_rp Rr.2, 0, 0) := by
  obtain ⟨d, rfl⟩ : ∃ d2, d = d2 + 1 := ⟨d - 1, by omega⟩
  exact sd_cal_of sd_i_X7_kind (Nat.le_of_ble_eq_true rfl) (t_X7_kind (by omega) M Rr h)
-- X7_value
def sd_q_X7_value : sd_MI := (yX7_value, cX7_value, 1, (some .int), 7, 0, sd_t_X7_value)
set_option maxRecDepth 4000 in
theorem sd_i_X7_value : sd_mL[63]? = some sd_q_X7_value := rfl
def f_X7_value (M : sd_M) : Option (Int × sd_M) := if (M 1 3) ≤ (M 1 4) then (some ((-1), M)) else (if 0 ≤ (M 1 4) ∧ (M 1 4) < 401 then (some (M 5 (M 1 4).toNat, M)) else none)
set_option maxRecDepth 4000 in
theorem t_X7_value {X : Nat → List sd_V → List sd_E → sd_A → Prop} {d : Nat} (hd : 0 ≤ d) (M : sd_M) (Rr : Int × sd_M) (h : f_X7_value M = some Rr) : sd_B X d sd_q_X7_value 0 [(0, .inr (.inr (some (1))))] [] M (some (.inl Rr.1), sd_rp Rr.2, 0, 0) := by
  unfold f_X7_value at h
  refine sd_b_go 1 (pc2 := 1) (lv2 := [(0, .inr (.inr (some (1))))]) (st2 := [.inr (.inr (some (1)))]) rfl ?_
  refine sd_b_gi (k := 4) sd_o_1 rfl rfl rfl ?_
  refine sd_b_go 1 (pc2 := 5) (lv2 := [(0, .inr (.inr (some (1))))]) (st2 := [.inr (.inr (some (1))), .inl (M 1 4)]) rfl ?_
  refine sd_b_gi (k := 3) sd_o_1 rfl rfl rfl ?_
  by_cases c1 : (M 1 3) ≤ (M 1 4)
  · rw [if_pos c1] at h
    refine sd_b_ct (c := .ge) (tgt := 23) rfl (decide_eq_true c1) (by decide) ?_
    refine sd_b_go 1 (pc2 := 24) (lv2 := [(0, .inr (.inr (some (1))))]) (st2 := [.inl ((-1))]) rfl ?_
    cases h
    exact sd_b_rt rfl rfl rfl
  · rw [if_neg c1] at h
    refine sd_b_cf (c := .ge) rfl (decide_eq_false c1) (by decide) ?_
    refine sd_b_go 1 (pc2 := 12) (lv2 := [(0, .inr (.inr (some (1))))]) (st2 := [.inr (.inr (some (1)))]) rfl ?_
    refine sd_b_gr (k := 7) sd_o_1 rfl rfl rfl ?_
    refine sd_b_go 1 (pc2 := 16) (lv2 := [(0, .inr (.inr (some (1))))]) (st2 := [.inr (.inr (some (1))), .inr (.inr (some (5)))]) rfl ?_
    refine sd_b_gi (k := 4) sd_o_1 rfl rfl rfl ?_
    obtain ⟨g2, h⟩ := sd_if h
    refine sd_b_ai (sd_oa sd_o_1 (by decide) (off := 4) (List.mem_of_getElem? (i := 3) rfl)) g2 rfl ?_
    refine sd_b_go 1 (pc2 := 24) (lv2 := [(0, .inr (.inr (some (1))))]) (st2 := [.inl (M 5 (M 1 4).toNat)]) rfl ?_
    cases h
    exact sd_b_rt rfl rfl rfl
theorem m_X7_value {X : Nat → List sd_V → List sd_E → sd_A → Prop} {d : Nat} (hd : 1 ≤ d) {M : sd_M} {Rr : Int × sd_M} (h : f_X7_value M = some Rr) : sd_Cal X d 63 [.inr (.inr (some (1)))] (sd_rp M) (some (.inl Rr.1), sd_rp Rr.2, 0, 0) := by
  obtain ⟨d, rfl⟩ : ∃ d2, d = d2 + 1 := ⟨d - 1, by omega⟩
  exact sd_cal_of sd_i_X7_value (Nat.le_of_ble_eq_true rfl) (t_X7_value (by omega) M Rr h)
-- X7_step
def sd_q_X7_step : sd_MI := (yX7_step, cX7_step, 1, none, 7, 0, sd_t_X7_step)
set_option maxRecDepth 4000 in
theorem sd_i_X7_step : sd_mL[64]? = some sd_q_X7_step := rfl
def f_X7_step (M : sd_M) : Option (Int × sd_M) := if (sd_w ((M 1 3) - 1)) ≤ (M 1 4) then (some (0, M)) else (some (0, sd_s M 1 4 (sd_w ((M 1 4) + 1))))
set_option maxRecDepth 4000 in
theorem t_X7_step {X : Nat → List sd_V → List sd_E → sd_A → Prop} {d : Nat} (hd : 0 ≤ d) (M : sd_M) (Rr : Int × sd_M) (h : f_X7_step M = some Rr) : sd_B X d sd_q_X7_step 0 [(0, .inr (.inr (some (1))))] [] M (none, sd_rp Rr.2, 0, 0) := by
  unfold f_X7_step at h
  refine sd_b_go 1 (pc2 := 1) (lv2 := [(0, .inr (.inr (some (1))))]) (st2 := [.inr (.inr (some (1)))]) rfl ?_
  refine sd_b_gi (k := 4) sd_o_1 rfl rfl rfl ?_
  refine sd_b_go 1 (pc2 := 5) (lv2 := [(0, .inr (.inr (some (1))))]) (st2 := [.inr (.inr (some (1))), .inl (M 1 4)]) rfl ?_
  refine sd_b_gi (k := 3) sd_o_1 rfl rfl rfl ?_
  refine sd_b_go 2 (pc2 := 10) (lv2 := [(0, .inr (.inr (some (1))))]) (st2 := [.inl (sd_w ((M 1 3) - 1)), .inl (M 1 4)]) rfl ?_
  by_cases c1 : (sd_w ((M 1 3) - 1)) ≤ (M 1 4)
  · rw [if_pos c1] at h
    refine sd_b_ct (c := .ge) (tgt := 23) rfl (decide_eq_true c1) (by decide) ?_
    cases h
    exact sd_b_rt rfl rfl rfl
  · rw [if_neg c1] at h
    refine sd_b_cf (c := .ge) rfl (decide_eq_false c1) (by decide) ?_
    refine sd_b_go 2 (pc2 := 15) (lv2 := [(0, .inr (.inr (some (1))))]) (st2 := [.inr (.inr (some (1))), .inr (.inr (some (1)))]) rfl ?_
    refine sd_b_gi (k := 4) sd_o_1 rfl rfl rfl ?_
    refine sd_b_go 2 (pc2 := 20) (lv2 := [(0, .inr (.inr (some (1))))]) (st2 := [.inl (sd_w ((M 1 4) + 1)), .inr (.inr (some (1)))]) rfl ?_
    refine sd_b_pi (k := 4) sd_o_1 rfl rfl rfl rfl rfl ?_
    cases h
    exact sd_b_rt rfl rfl rfl
theorem m_X7_step {X : Nat → List sd_V → List sd_E → sd_A → Prop} {d : Nat} (hd : 1 ≤ d) {M : sd_M} {Rr : Int × sd_M} (h : f_X7_step M = some Rr) : sd_Cal X d 64 [.inr (.inr (some (1)))] (sd_rp M) (none, sd_rp Rr.2, 0, 0) := by
  obtain ⟨d, rfl⟩ : ∃ d2, d = d2 + 1 := ⟨d - 1, by omega⟩
  exact sd_cal_of sd_i_X7_step (Nat.le_of_ble_eq_true rfl) (t_X7_step (by omega) M Rr h)
-- X7_fails
def sd_q_X7_fails : sd_MI := (yX7_fails, cX7_fails, 2, (some .boolean), 7, 1, sd_t_X7_fails)
set_option maxRecDepth 4000 in
theorem sd_i_X7_fails : sd_mL[66]? = some sd_q_X7_fails := rfl
def f_X7_fails_32 (s0 : Int) (M : sd_M) : Option (Int × sd_M) := some (0, sd_s M 1 2 s0)
set_option maxRecDepth 4000 in
theorem t_X7_fails_32 {X : Nat → List sd_V → List sd_E → sd_A → Prop} {d : Nat} (hd : 0 ≤ d) (s0 : Int) (M : sd_M) (Rr : Int × sd_M) (h : f_X7_fails_32 s0 M = some Rr) : sd_B X d sd_q_X7_fails 32 [] [.inl (s0), .inr (.inr (some (1)))] M (some (.inl Rr.1), sd_rp Rr.2, 0, 0) := by
  unfold f_X7_fails_32 at h
  refine sd_b_pi (k := 2) sd_o_1 rfl rfl rfl rfl rfl ?_
  refine sd_b_go 1 (pc2 := 36) (lv2 := []) (st2 := [.inl (0)]) rfl ?_
  cases h
  exact sd_b_rt rfl rfl rfl
def f_X7_fails (p1 : Int) (M : sd_M) : Option (Int × sd_M) := if (M 1 3) ≤ (M 1 4) then (f_X7_fails_32 0 M) else (if 0 ≤ (M 1 4) ∧ (M 1 4) < 401 then (f_X7_fails_32 (sd_w ((sd_w (1 + (sd_w (8 * (M 4 (M 1 4).toNat))))) + p1)) M) else none)
set_option maxRecDepth 4000 in
theorem t_X7_fails {X : Nat → List sd_V → List sd_E → sd_A → Prop} {d : Nat} (hd : 0 ≤ d) (p1 : Int) (M : sd_M) (Rr : Int × sd_M) (h : f_X7_fails p1 M = some Rr) : sd_B X d sd_q_X7_fails 0 [(0, .inr (.inr (some (1)))), (1, .inl (p1))] [] M (some (.inl Rr.1), sd_rp Rr.2, 0, 0) := by
  unfold f_X7_fails at h
  refine sd_b_go 2 (pc2 := 2) (lv2 := [(0, .inr (.inr (some (1)))), (1, .inl (p1))]) (st2 := [.inr (.inr (some (1))), .inr (.inr (some (1)))]) rfl ?_
  refine sd_b_gi (k := 4) sd_o_1 rfl rfl rfl ?_
  refine sd_b_go 1 (pc2 := 6) (lv2 := [(0, .inr (.inr (some (1)))), (1, .inl (p1))]) (st2 := [.inr (.inr (some (1))), .inl (M 1 4), .inr (.inr (some (1)))]) rfl ?_
  refine sd_b_gi (k := 3) sd_o_1 rfl rfl rfl ?_
  by_cases c1 : (M 1 3) ≤ (M 1 4)
  · rw [if_pos c1] at h
    refine sd_b_ct (c := .ge) (tgt := 31) rfl (decide_eq_true c1) (by decide) ?_
    refine sd_b_go 1 (pc2 := 32) (lv2 := [(0, .inr (.inr (some (1)))), (1, .inl (p1))]) (st2 := [.inl (0), .inr (.inr (some (1)))]) rfl ?_
    refine sd_b_wk [] (fun _ h0 => absurd h0 List.not_mem_nil) ?_
    exact t_X7_fails_32 hd 0 M _ h
  · rw [if_neg c1] at h
    refine sd_b_cf (c := .ge) rfl (decide_eq_false c1) (by decide) ?_
    refine sd_b_go 3 (pc2 := 16) (lv2 := [(0, .inr (.inr (some (1)))), (1, .inl (p1))]) (st2 := [.inr (.inr (some (1))), .inl (8), .inl (1), .inr (.inr (some (1)))]) rfl ?_
    refine sd_b_gr (k := 6) sd_o_1 rfl rfl rfl ?_
    refine sd_b_go 1 (pc2 := 20) (lv2 := [(0, .inr (.inr (some (1)))), (1, .inl (p1))]) (st2 := [.inr (.inr (some (1))), .inr (.inr (some (4))), .inl (8), .inl (1), .inr (.inr (some (1)))]) rfl ?_
    refine sd_b_gi (k := 4) sd_o_1 rfl rfl rfl ?_
    obtain ⟨g2, h⟩ := sd_if h
    refine sd_b_ai (sd_oa sd_o_1 (by decide) (off := 3) (List.mem_of_getElem? (i := 2) rfl)) g2 rfl ?_
    refine sd_b_go 5 (pc2 := 32) (lv2 := [(0, .inr (.inr (some (1)))), (1, .inl (p1))]) (st2 := [.inl (sd_w ((sd_w (1 + (sd_w (8 * (M 4 (M 1 4).toNat))))) + p1)), .inr (.inr (some (1)))]) rfl ?_
    refine sd_b_wk [] (fun _ h0 => absurd h0 List.not_mem_nil) ?_
    exact t_X7_fails_32 hd (sd_w ((sd_w (1 + (sd_w (8 * (M 4 (M 1 4).toNat))))) + p1)) M _ h
theorem m_X7_fails {X : Nat → List sd_V → List sd_E → sd_A → Prop} {d : Nat} (hd : 1 ≤ d) {p1 : Int} {M : sd_M} {Rr : Int × sd_M} (h : f_X7_fails p1 M = some Rr) : sd_Cal X d 66 [.inr (.inr (some (1))), .inl (p1)] (sd_rp M) (some (.inl Rr.1), sd_rp Rr.2, 0, 0) := by
  obtain ⟨d, rfl⟩ : ∃ d2, d = d2 + 1 := ⟨d - 1, by omega⟩
  exact sd_cal_of sd_i_X7_fails (Nat.le_of_ble_eq_true rfl) (t_X7_fails (by omega) p1 M Rr h)
-- X8_copyFrom
def sd_q_X8_copyFrom : sd_MI := (yX8_copyFrom, cX8_copyFrom, 2, none, 8, 1, sd_t_X8_copyFrom)
set_option maxRecDepth 4000 in
theorem sd_i_X8_copyFrom : sd_mL[68]? = some sd_q_X8_copyFrom := rfl
def f_X8_copyFrom (this : Nat) (other : Nat) (M : sd_M) : Option (Int × sd_M) := if (M other 0) = 0 ∨ (M other 0) = 1 then (some (0, sd_cp (sd_cp (sd_cp (sd_s (sd_cp (sd_cp (sd_cp (sd_s (sd_s (sd_s M this 0 (M other 0)) this 1 (sd_s M this 0 (M other 0) other 1)) this 2 (sd_s (sd_s M this 0 (M other 0)) this 1 (sd_s M this 0 (M other 0) other 1) other 2)) (other + 1) (this + 1) 9) (other + 2) (this + 2) 9) (other + 3) (this + 3) 9) this 6 (sd_cp (sd_cp (sd_cp (sd_s (sd_s (sd_s M this 0 (M other 0)) this 1 (sd_s M this 0 (M other 0) other 1)) this 2 (sd_s (sd_s M this 0 (M other 0)) this 1 (sd_s M this 0 (M other 0) other 1) other 2)) (other + 1) (this + 1) 9) (other + 2) (this + 2) 9) (other + 3) (this + 3) 9 other 6)) (other + 4) (this + 4) 12) (other + 5) (this + 5) 12) (other + 6) (this + 6) 12)) else none
set_option maxRecDepth 4000 in
theorem t_X8_copyFrom {X : Nat → List sd_V → List sd_E → sd_A → Prop} {d : Nat} (hd : 0 ≤ d) (this : Nat) (other : Nat) (h_this : sd_o this 8) (h_other : sd_o other 8) (M : sd_M) (Rr : Int × sd_M) (h : f_X8_copyFrom this other M = some Rr) : sd_B X d sd_q_X8_copyFrom 0 [(0, .inr (.inr (some (this)))), (1, .inr (.inr (some (other))))] [] M (none, sd_rp Rr.2, 0, 0) := by
  unfold f_X8_copyFrom at h
  refine sd_b_go 2 (pc2 := 2) (lv2 := [(0, .inr (.inr (some (this)))), (1, .inr (.inr (some (other))))]) (st2 := [.inr (.inr (some (other))), .inr (.inr (some (this)))]) rfl ?_
  refine sd_b_gi (k := 0) h_other rfl rfl rfl ?_
  obtain ⟨g1, h⟩ := sd_if h
  refine sd_b_pz (k := 0) h_this rfl rfl rfl rfl g1 rfl ?_
  refine sd_b_go 2 (pc2 := 10) (lv2 := [(0, .inr (.inr (some (this)))), (1, .inr (.inr (some (other))))]) (st2 := [.inr (.inr (some (other))), .inr (.inr (some (this)))]) rfl ?_
  refine sd_b_gi (k := 1) h_other rfl rfl rfl ?_
  refine sd_b_pi (k := 1) h_this rfl rfl rfl rfl rfl ?_
  refine sd_b_go 2 (pc2 := 18) (lv2 := [(0, .inr (.inr (some (this)))), (1, .inr (.inr (some (other))))]) (st2 := [.inr (.inr (some (other))), .inr (.inr (some (this)))]) rfl ?_
  refine sd_b_gi (k := 2) h_other rfl rfl rfl ?_
  refine sd_b_pi (k := 2) h_this rfl rfl rfl rfl rfl ?_
  refine sd_b_go 1 (pc2 := 25) (lv2 := [(0, .inr (.inr (some (this)))), (1, .inr (.inr (some (other))))]) (st2 := [.inr (.inr (some (other)))]) rfl ?_
  refine sd_b_gr (k := 3) h_other rfl rfl rfl ?_
  refine sd_b_go 2 (pc2 := 30) (lv2 := [(0, .inr (.inr (some (this)))), (1, .inr (.inr (some (other))))]) (st2 := [.inr (.inr (some (this))), .inl (0), .inr (.inr (some (other + 1)))]) rfl ?_
  refine sd_b_gr (k := 3) h_this rfl rfl rfl ?_
  refine sd_b_go 2 (pc2 := 36) (lv2 := [(0, .inr (.inr (some (this)))), (1, .inr (.inr (some (other))))]) (st2 := [.inl (9), .inl (0), .inr (.inr (some (this + 1))), .inl (0), .inr (.inr (some (other + 1)))]) rfl ?_
  refine sd_b_cp (n := 9) (sd_oa h_other (by decide) (off := 1) (List.mem_of_getElem? (i := 0) rfl)) (sd_oa h_this (by decide) (off := 1) (List.mem_of_getElem? (i := 0) rfl)) (by decide) (by decide) (Nat.le_of_ble_eq_true rfl) rfl rfl ?_
  refine sd_b_go 1 (pc2 := 40) (lv2 := [(0, .inr (.inr (some (this)))), (1, .inr (.inr (some (other))))]) (st2 := [.inr (.inr (some (other)))]) rfl ?_
  refine sd_b_gr (k := 4) h_other rfl rfl rfl ?_
  refine sd_b_go 2 (pc2 := 45) (lv2 := [(0, .inr (.inr (some (this)))), (1, .inr (.inr (some (other))))]) (st2 := [.inr (.inr (some (this))), .inl (0), .inr (.inr (some (other + 2)))]) rfl ?_
  refine sd_b_gr (k := 4) h_this rfl rfl rfl ?_
  refine sd_b_go 2 (pc2 := 51) (lv2 := [(0, .inr (.inr (some (this)))), (1, .inr (.inr (some (other))))]) (st2 := [.inl (9), .inl (0), .inr (.inr (some (this + 2))), .inl (0), .inr (.inr (some (other + 2)))]) rfl ?_
  refine sd_b_cp (n := 9) (sd_oa h_other (by decide) (off := 2) (List.mem_of_getElem? (i := 1) rfl)) (sd_oa h_this (by decide) (off := 2) (List.mem_of_getElem? (i := 1) rfl)) (by decide) (by decide) (Nat.le_of_ble_eq_true rfl) rfl rfl ?_
  refine sd_b_go 1 (pc2 := 55) (lv2 := [(0, .inr (.inr (some (this)))), (1, .inr (.inr (some (other))))]) (st2 := [.inr (.inr (some (other)))]) rfl ?_
  refine sd_b_gr (k := 5) h_other rfl rfl rfl ?_
  refine sd_b_go 2 (pc2 := 60) (lv2 := [(0, .inr (.inr (some (this)))), (1, .inr (.inr (some (other))))]) (st2 := [.inr (.inr (some (this))), .inl (0), .inr (.inr (some (other + 3)))]) rfl ?_
  refine sd_b_gr (k := 5) h_this rfl rfl rfl ?_
  refine sd_b_go 2 (pc2 := 66) (lv2 := [(0, .inr (.inr (some (this)))), (1, .inr (.inr (some (other))))]) (st2 := [.inl (9), .inl (0), .inr (.inr (some (this + 3))), .inl (0), .inr (.inr (some (other + 3)))]) rfl ?_
  refine sd_b_cp (n := 9) (sd_oa h_other (by decide) (off := 3) (List.mem_of_getElem? (i := 2) rfl)) (sd_oa h_this (by decide) (off := 3) (List.mem_of_getElem? (i := 2) rfl)) (by decide) (by decide) (Nat.le_of_ble_eq_true rfl) rfl rfl ?_
  refine sd_b_go 2 (pc2 := 71) (lv2 := [(0, .inr (.inr (some (this)))), (1, .inr (.inr (some (other))))]) (st2 := [.inr (.inr (some (other))), .inr (.inr (some (this)))]) rfl ?_
  refine sd_b_gi (k := 6) h_other rfl rfl rfl ?_
  refine sd_b_pi (k := 6) h_this rfl rfl rfl rfl rfl ?_
  refine sd_b_go 1 (pc2 := 78) (lv2 := [(0, .inr (.inr (some (this)))), (1, .inr (.inr (some (other))))]) (st2 := [.inr (.inr (some (other)))]) rfl ?_
  refine sd_b_gr (k := 7) h_other rfl rfl rfl ?_
  refine sd_b_go 2 (pc2 := 83) (lv2 := [(0, .inr (.inr (some (this)))), (1, .inr (.inr (some (other))))]) (st2 := [.inr (.inr (some (this))), .inl (0), .inr (.inr (some (other + 4)))]) rfl ?_
  refine sd_b_gr (k := 7) h_this rfl rfl rfl ?_
  refine sd_b_go 2 (pc2 := 89) (lv2 := [(0, .inr (.inr (some (this)))), (1, .inr (.inr (some (other))))]) (st2 := [.inl (12), .inl (0), .inr (.inr (some (this + 4))), .inl (0), .inr (.inr (some (other + 4)))]) rfl ?_
  refine sd_b_cp (n := 12) (sd_oa h_other (by decide) (off := 4) (List.mem_of_getElem? (i := 3) rfl)) (sd_oa h_this (by decide) (off := 4) (List.mem_of_getElem? (i := 3) rfl)) (by decide) (by decide) (Nat.le_of_ble_eq_true rfl) rfl rfl ?_
  refine sd_b_go 1 (pc2 := 93) (lv2 := [(0, .inr (.inr (some (this)))), (1, .inr (.inr (some (other))))]) (st2 := [.inr (.inr (some (other)))]) rfl ?_
  refine sd_b_gr (k := 8) h_other rfl rfl rfl ?_
  refine sd_b_go 2 (pc2 := 98) (lv2 := [(0, .inr (.inr (some (this)))), (1, .inr (.inr (some (other))))]) (st2 := [.inr (.inr (some (this))), .inl (0), .inr (.inr (some (other + 5)))]) rfl ?_
  refine sd_b_gr (k := 8) h_this rfl rfl rfl ?_
  refine sd_b_go 2 (pc2 := 104) (lv2 := [(0, .inr (.inr (some (this)))), (1, .inr (.inr (some (other))))]) (st2 := [.inl (12), .inl (0), .inr (.inr (some (this + 5))), .inl (0), .inr (.inr (some (other + 5)))]) rfl ?_
  refine sd_b_cp (n := 12) (sd_oa h_other (by decide) (off := 5) (List.mem_of_getElem? (i := 4) rfl)) (sd_oa h_this (by decide) (off := 5) (List.mem_of_getElem? (i := 4) rfl)) (by decide) (by decide) (Nat.le_of_ble_eq_true rfl) rfl rfl ?_
  refine sd_b_go 1 (pc2 := 108) (lv2 := [(0, .inr (.inr (some (this)))), (1, .inr (.inr (some (other))))]) (st2 := [.inr (.inr (some (other)))]) rfl ?_
  refine sd_b_gr (k := 9) h_other rfl rfl rfl ?_
  refine sd_b_go 2 (pc2 := 113) (lv2 := [(0, .inr (.inr (some (this)))), (1, .inr (.inr (some (other))))]) (st2 := [.inr (.inr (some (this))), .inl (0), .inr (.inr (some (other + 6)))]) rfl ?_
  refine sd_b_gr (k := 9) h_this rfl rfl rfl ?_
  refine sd_b_go 2 (pc2 := 119) (lv2 := [(0, .inr (.inr (some (this)))), (1, .inr (.inr (some (other))))]) (st2 := [.inl (12), .inl (0), .inr (.inr (some (this + 6))), .inl (0), .inr (.inr (some (other + 6)))]) rfl ?_
  refine sd_b_cp (n := 12) (sd_oa h_other (by decide) (off := 6) (List.mem_of_getElem? (i := 5) rfl)) (sd_oa h_this (by decide) (off := 6) (List.mem_of_getElem? (i := 5) rfl)) (by decide) (by decide) (Nat.le_of_ble_eq_true rfl) rfl rfl ?_
  cases h
  exact sd_b_rt rfl rfl rfl
theorem m_X8_copyFrom {X : Nat → List sd_V → List sd_E → sd_A → Prop} {d : Nat} (hd : 1 ≤ d) {this : Nat} {other : Nat} (h_this : sd_o this 8) (h_other : sd_o other 8) {M : sd_M} {Rr : Int × sd_M} (h : f_X8_copyFrom this other M = some Rr) : sd_Cal X d 68 [.inr (.inr (some (this))), .inr (.inr (some (other)))] (sd_rp M) (none, sd_rp Rr.2, 0, 0) := by
  obtain ⟨d, rfl⟩ : ∃ d2, d = d2 + 1 := ⟨d - 1, by omega⟩
  exact sd_cal_of sd_i_X8_copyFrom (Nat.le_of_ble_eq_true rfl) (t_X8_copyFrom (by omega) this other h_this h_other M Rr h)
-- X8_addOffer
def sd_q_X8_addOffer : sd_MI := (yX8_addOffer, cX8_addOffer, 3, none, 8, 2, sd_t_X8_addOffer)
set_option maxRecDepth 4000 in
theorem sd_i_X8_addOffer : sd_mL[69]? = some sd_q_X8_addOffer := rfl
def f_X8_addOffer (this : Nat) (p1 : Int) (p2 : Int) (M : sd_M) : Option (Int × sd_M) := if 9 ≤ (M this 2) then (some (0, M)) else (if 0 ≤ (M this 2) ∧ (M this 2) < 9 then (if 0 ≤ (sd_s M (this + 1) (M this 2).toNat p1 this 2) ∧ (sd_s M (this + 1) (M this 2).toNat p1 this 2) < 9 then (if 0 ≤ (sd_s (sd_s M (this + 1) (M this 2).toNat p1) (this + 2) (sd_s M (this + 1) (M this 2).toNat p1 this 2).toNat p2 this 2) ∧ (sd_s (sd_s M (this + 1) (M this 2).toNat p1) (this + 2) (sd_s M (this + 1) (M this 2).toNat p1 this 2).toNat p2 this 2) < 9 then (some (0, sd_s (sd_s (sd_s (sd_s M (this + 1) (M this 2).toNat p1) (this + 2) (sd_s M (this + 1) (M this 2).toNat p1 this 2).toNat p2) (this + 3) (sd_s (sd_s M (this + 1) (M this 2).toNat p1) (this + 2) (sd_s M (this + 1) (M this 2).toNat p1 this 2).toNat p2 this 2).toNat 0) this 2 (sd_w ((sd_s (sd_s (sd_s M (this + 1) (M this 2).toNat p1) (this + 2) (sd_s M (this + 1) (M this 2).toNat p1 this 2).toNat p2) (this + 3) (sd_s (sd_s M (this + 1) (M this 2).toNat p1) (this + 2) (sd_s M (this + 1) (M this 2).toNat p1 this 2).toNat p2 this 2).toNat 0 this 2) + 1)))) else none) else none) else none)
set_option maxRecDepth 4000 in
theorem t_X8_addOffer {X : Nat → List sd_V → List sd_E → sd_A → Prop} {d : Nat} (hd : 0 ≤ d) (this : Nat) (h_this : sd_o this 8) (p1 : Int) (p2 : Int) (M : sd_M) (Rr : Int × sd_M) (h : f_X8_addOffer this p1 p2 M = some Rr) : sd_B X d sd_q_X8_addOffer 0 [(0, .inr (.inr (some (this)))), (1, .inl (p1)), (2, .inl (p2))] [] M (none, sd_rp Rr.2, 0, 0) := by
  unfold f_X8_addOffer at h
  refine sd_b_go 1 (pc2 := 1) (lv2 := [(0, .inr (.inr (some (this)))), (1, .inl (p1)), (2, .inl (p2))]) (st2 := [.inr (.inr (some (this)))]) rfl ?_
  refine sd_b_gi (k := 2) h_this rfl rfl rfl ?_
  refine sd_b_go 1 (pc2 := 6) (lv2 := [(0, .inr (.inr (some (this)))), (1, .inl (p1)), (2, .inl (p2))]) (st2 := [.inl (9), .inl (M this 2)]) rfl ?_
  by_cases c1 : 9 ≤ (M this 2)
  · rw [if_pos c1] at h
    refine sd_b_ct (c := .ge) (tgt := 49) rfl (decide_eq_true c1) (by decide) ?_
    cases h
    exact sd_b_rt rfl rfl rfl
  · rw [if_neg c1] at h
    refine sd_b_cf (c := .ge) rfl (decide_eq_false c1) (by decide) ?_
    refine sd_b_go 1 (pc2 := 10) (lv2 := [(0, .inr (.inr (some (this)))), (1, .inl (p1)), (2, .inl (p2))]) (st2 := [.inr (.inr (some (this)))]) rfl ?_
    refine sd_b_gr (k := 3) h_this rfl rfl rfl ?_
    refine sd_b_go 1 (pc2 := 14) (lv2 := [(0, .inr (.inr (some (this)))), (1, .inl (p1)), (2, .inl (p2))]) (st2 := [.inr (.inr (some (this))), .inr (.inr (some (this + 1)))]) rfl ?_
    refine sd_b_gi (k := 2) h_this rfl rfl rfl ?_
    refine sd_b_go 1 (pc2 := 18) (lv2 := [(0, .inr (.inr (some (this)))), (1, .inl (p1)), (2, .inl (p2))]) (st2 := [.inl (p1), .inl (M this 2), .inr (.inr (some (this + 1)))]) rfl ?_
    obtain ⟨g2, h⟩ := sd_if h
    refine sd_b_si (sd_oa h_this (by decide) (off := 1) (List.mem_of_getElem? (i := 0) rfl)) g2 rfl ?_
    refine sd_b_go 1 (pc2 := 20) (lv2 := [(0, .inr (.inr (some (this)))), (1, .inl (p1)), (2, .inl (p2))]) (st2 := [.inr (.inr (some (this)))]) rfl ?_
    refine sd_b_gr (k := 4) h_this rfl rfl rfl ?_
    refine sd_b_go 1 (pc2 := 24) (lv2 := [(0, .inr (.inr (some (this)))), (1, .inl (p1)), (2, .inl (p2))]) (st2 := [.inr (.inr (some (this))), .inr (.inr (some (this + 2)))]) rfl ?_
    refine sd_b_gi (k := 2) h_this rfl rfl rfl ?_
    refine sd_b_go 1 (pc2 := 28) (lv2 := [(0, .inr (.inr (some (this)))), (1, .inl (p1)), (2, .inl (p2))]) (st2 := [.inl (p2), .inl (sd_s M (this + 1) (M this 2).toNat p1 this 2), .inr (.inr (some (this + 2)))]) rfl ?_
    obtain ⟨g3, h⟩ := sd_if h
    refine sd_b_si (sd_oa h_this (by decide) (off := 2) (List.mem_of_getElem? (i := 1) rfl)) g3 rfl ?_
    refine sd_b_go 1 (pc2 := 30) (lv2 := [(0, .inr (.inr (some (this)))), (1, .inl (p1)), (2, .inl (p2))]) (st2 := [.inr (.inr (some (this)))]) rfl ?_
    refine sd_b_gr (k := 5) h_this rfl rfl rfl ?_
    refine sd_b_go 1 (pc2 := 34) (lv2 := [(0, .inr (.inr (some (this)))), (1, .inl (p1)), (2, .inl (p2))]) (st2 := [.inr (.inr (some (this))), .inr (.inr (some (this + 3)))]) rfl ?_
    refine sd_b_gi (k := 2) h_this rfl rfl rfl ?_
    refine sd_b_go 1 (pc2 := 38) (lv2 := [(0, .inr (.inr (some (this)))), (1, .inl (p1)), (2, .inl (p2))]) (st2 := [.inl (0), .inl (sd_s (sd_s M (this + 1) (M this 2).toNat p1) (this + 2) (sd_s M (this + 1) (M this 2).toNat p1 this 2).toNat p2 this 2), .inr (.inr (some (this + 3)))]) rfl ?_
    obtain ⟨g4, h⟩ := sd_if h
    refine sd_b_si (sd_oa h_this (by decide) (off := 3) (List.mem_of_getElem? (i := 2) rfl)) g4 rfl ?_
    refine sd_b_go 2 (pc2 := 41) (lv2 := [(0, .inr (.inr (some (this)))), (1, .inl (p1)), (2, .inl (p2))]) (st2 := [.inr (.inr (some (this))), .inr (.inr (some (this)))]) rfl ?_
    refine sd_b_gi (k := 2) h_this rfl rfl rfl ?_
    refine sd_b_go 2 (pc2 := 46) (lv2 := [(0, .inr (.inr (some (this)))), (1, .inl (p1)), (2, .inl (p2))]) (st2 := [.inl (sd_w ((sd_s (sd_s (sd_s M (this + 1) (M this 2).toNat p1) (this + 2) (sd_s M (this + 1) (M this 2).toNat p1 this 2).toNat p2) (this + 3) (sd_s (sd_s M (this + 1) (M this 2).toNat p1) (this + 2) (sd_s M (this + 1) (M this 2).toNat p1 this 2).toNat p2 this 2).toNat 0 this 2) + 1)), .inr (.inr (some (this)))]) rfl ?_
    refine sd_b_pi (k := 2) h_this rfl rfl rfl rfl rfl ?_
    cases h
    exact sd_b_rt rfl rfl rfl
theorem m_X8_addOffer {X : Nat → List sd_V → List sd_E → sd_A → Prop} {d : Nat} (hd : 1 ≤ d) {this : Nat} (h_this : sd_o this 8) {p1 : Int} {p2 : Int} {M : sd_M} {Rr : Int × sd_M} (h : f_X8_addOffer this p1 p2 M = some Rr) : sd_Cal X d 69 [.inr (.inr (some (this))), .inl (p1), .inl (p2)] (sd_rp M) (none, sd_rp Rr.2, 0, 0) := by
  obtain ⟨d, rfl⟩ : ∃ d2, d = d2 + 1 := ⟨d - 1, by omega⟩
  exact sd_cal_of sd_i_X8_addOffer (Nat.le_of_ble_eq_true rfl) (t_X8_addOffer (by omega) this h_this p1 p2 M Rr h)
-- X8_addNeed
def sd_q_X8_addNeed : sd_MI := (yX8_addNeed, cX8_addNeed, 4, none, 8, 3, sd_t_X8_addNeed)
set_option maxRecDepth 4000 in
theorem sd_i_X8_addNeed : sd_mL[70]? = some sd_q_X8_addNeed := rfl
def f_X8_addNeed (this : Nat) (p1 : Int) (p2 : Int) (p3 : Int) (M : sd_M) : Option (Int × sd_M) := if 12 ≤ (M this 6) then (some (0, M)) else (if p1 < 0 then (some (0, M)) else (if (M this 2) ≤ p1 then (some (0, M)) else (if 0 ≤ (M this 6) ∧ (M this 6) < 12 then (if 0 ≤ (sd_s M (this + 4) (M this 6).toNat p1 this 6) ∧ (sd_s M (this + 4) (M this 6).toNat p1 this 6) < 12 then (if 0 ≤ (sd_s (sd_s M (this + 4) (M this 6).toNat p1) (this + 5) (sd_s M (this + 4) (M this 6).toNat p1 this 6).toNat p2 this 6) ∧ (sd_s (sd_s M (this + 4) (M this 6).toNat p1) (this + 5) (sd_s M (this + 4) (M this 6).toNat p1 this 6).toNat p2 this 6) < 12 then (if 0 ≤ p1 ∧ p1 < 9 then (if 0 ≤ p1 ∧ p1 < 9 then (some (0, sd_s (sd_s (sd_s (sd_s (sd_s M (this + 4) (M this 6).toNat p1) (this + 5) (sd_s M (this + 4) (M this 6).toNat p1 this 6).toNat p2) (this + 6) (sd_s (sd_s M (this + 4) (M this 6).toNat p1) (this + 5) (sd_s M (this + 4) (M this 6).toNat p1 this 6).toNat p2 this 6).toNat p3) this 6 (sd_w ((sd_s (sd_s (sd_s M (this + 4) (M this 6).toNat p1) (this + 5) (sd_s M (this + 4) (M this 6).toNat p1 this 6).toNat p2) (this + 6) (sd_s (sd_s M (this + 4) (M this 6).toNat p1) (this + 5) (sd_s M (this + 4) (M this 6).toNat p1 this 6).toNat p2 this 6).toNat p3 this 6) + 1))) (this + 3) p1.toNat (sd_w (((sd_s (sd_s (sd_s (sd_s M (this + 4) (M this 6).toNat p1) (this + 5) (sd_s M (this + 4) (M this 6).toNat p1 this 6).toNat p2) (this + 6) (sd_s (sd_s M (this + 4) (M this 6).toNat p1) (this + 5) (sd_s M (this + 4) (M this 6).toNat p1 this 6).toNat p2 this 6).toNat p3) this 6 (sd_w ((sd_s (sd_s (sd_s M (this + 4) (M this 6).toNat p1) (this + 5) (sd_s M (this + 4) (M this 6).toNat p1 this 6).toNat p2) (this + 6) (sd_s (sd_s M (this + 4) (M this 6).toNat p1) (this + 5) (sd_s M (this + 4) (M this 6).toNat p1 this 6).toNat p2 this 6).toNat p3 this 6) + 1))) (this + 3) p1.toNat) + 1)))) else none) else none) else none) else none) else none)))
set_option maxRecDepth 4000 in
theorem t_X8_addNeed {X : Nat → List sd_V → List sd_E → sd_A → Prop} {d : Nat} (hd : 0 ≤ d) (this : Nat) (h_this : sd_o this 8) (p1 : Int) (p2 : Int) (p3 : Int) (M : sd_M) (Rr : Int × sd_M) (h : f_X8_addNeed this p1 p2 p3 M = some Rr) : sd_B X d sd_q_X8_addNeed 0 [(0, .inr (.inr (some (this)))), (1, .inl (p1)), (2, .inl (p2)), (3, .inl (p3))] [] M (none, sd_rp Rr.2, 0, 0) := by
  unfold f_X8_addNeed at h
  refine sd_b_go 1 (pc2 := 1) (lv2 := [(0, .inr (.inr (some (this)))), (1, .inl (p1)), (2, .inl (p2)), (3, .inl (p3))]) (st2 := [.inr (.inr (some (this)))]) rfl ?_
  refine sd_b_gi (k := 6) h_this rfl rfl rfl ?_
  refine sd_b_go 1 (pc2 := 6) (lv2 := [(0, .inr (.inr (some (this)))), (1, .inl (p1)), (2, .inl (p2)), (3, .inl (p3))]) (st2 := [.inl (12), .inl (M this 6)]) rfl ?_
  by_cases c1 : 12 ≤ (M this 6)
  · rw [if_pos c1] at h
    refine sd_b_ct (c := .ge) (tgt := 71) rfl (decide_eq_true c1) (by decide) ?_
    cases h
    exact sd_b_rt rfl rfl rfl
  · rw [if_neg c1] at h
    refine sd_b_cf (c := .ge) rfl (decide_eq_false c1) (by decide) ?_
    refine sd_b_go 1 (pc2 := 10) (lv2 := [(0, .inr (.inr (some (this)))), (1, .inl (p1)), (2, .inl (p2)), (3, .inl (p3))]) (st2 := [.inl (p1)]) rfl ?_
    by_cases c2 : p1 < 0
    · rw [if_pos c2] at h
      refine sd_b_zt (c := .lt) (tgt := 71) rfl (decide_eq_true c2) (by decide) ?_
      cases h
      exact sd_b_rt rfl rfl rfl
    · rw [if_neg c2] at h
      refine sd_b_zf (c := .lt) rfl (decide_eq_false c2) (by decide) ?_
      refine sd_b_go 2 (pc2 := 15) (lv2 := [(0, .inr (.inr (some (this)))), (1, .inl (p1)), (2, .inl (p2)), (3, .inl (p3))]) (st2 := [.inr (.inr (some (this))), .inl (p1)]) rfl ?_
      refine sd_b_gi (k := 2) h_this rfl rfl rfl ?_
      by_cases c3 : (M this 2) ≤ p1
      · rw [if_pos c3] at h
        refine sd_b_ct (c := .ge) (tgt := 71) rfl (decide_eq_true c3) (by decide) ?_
        cases h
        exact sd_b_rt rfl rfl rfl
      · rw [if_neg c3] at h
        refine sd_b_cf (c := .ge) rfl (decide_eq_false c3) (by decide) ?_
        refine sd_b_go 1 (pc2 := 22) (lv2 := [(0, .inr (.inr (some (this)))), (1, .inl (p1)), (2, .inl (p2)), (3, .inl (p3))]) (st2 := [.inr (.inr (some (this)))]) rfl ?_
        refine sd_b_gr (k := 7) h_this rfl rfl rfl ?_
        refine sd_b_go 1 (pc2 := 26) (lv2 := [(0, .inr (.inr (some (this)))), (1, .inl (p1)), (2, .inl (p2)), (3, .inl (p3))]) (st2 := [.inr (.inr (some (this))), .inr (.inr (some (this + 4)))]) rfl ?_
        refine sd_b_gi (k := 6) h_this rfl rfl rfl ?_
        refine sd_b_go 1 (pc2 := 30) (lv2 := [(0, .inr (.inr (some (this)))), (1, .inl (p1)), (2, .inl (p2)), (3, .inl (p3))]) (st2 := [.inl (p1), .inl (M this 6), .inr (.inr (some (this + 4)))]) rfl ?_
        obtain ⟨g4, h⟩ := sd_if h
        refine sd_b_si (sd_oa h_this (by decide) (off := 4) (List.mem_of_getElem? (i := 3) rfl)) g4 rfl ?_
        refine sd_b_go 1 (pc2 := 32) (lv2 := [(0, .inr (.inr (some (this)))), (1, .inl (p1)), (2, .inl (p2)), (3, .inl (p3))]) (st2 := [.inr (.inr (some (this)))]) rfl ?_
        refine sd_b_gr (k := 8) h_this rfl rfl rfl ?_
        refine sd_b_go 1 (pc2 := 36) (lv2 := [(0, .inr (.inr (some (this)))), (1, .inl (p1)), (2, .inl (p2)), (3, .inl (p3))]) (st2 := [.inr (.inr (some (this))), .inr (.inr (some (this + 5)))]) rfl ?_
        refine sd_b_gi (k := 6) h_this rfl rfl rfl ?_
        refine sd_b_go 1 (pc2 := 40) (lv2 := [(0, .inr (.inr (some (this)))), (1, .inl (p1)), (2, .inl (p2)), (3, .inl (p3))]) (st2 := [.inl (p2), .inl (sd_s M (this + 4) (M this 6).toNat p1 this 6), .inr (.inr (some (this + 5)))]) rfl ?_
        obtain ⟨g5, h⟩ := sd_if h
        refine sd_b_si (sd_oa h_this (by decide) (off := 5) (List.mem_of_getElem? (i := 4) rfl)) g5 rfl ?_
        refine sd_b_go 1 (pc2 := 42) (lv2 := [(0, .inr (.inr (some (this)))), (1, .inl (p1)), (2, .inl (p2)), (3, .inl (p3))]) (st2 := [.inr (.inr (some (this)))]) rfl ?_
        refine sd_b_gr (k := 9) h_this rfl rfl rfl ?_
        refine sd_b_go 1 (pc2 := 46) (lv2 := [(0, .inr (.inr (some (this)))), (1, .inl (p1)), (2, .inl (p2)), (3, .inl (p3))]) (st2 := [.inr (.inr (some (this))), .inr (.inr (some (this + 6)))]) rfl ?_
        refine sd_b_gi (k := 6) h_this rfl rfl rfl ?_
        refine sd_b_go 1 (pc2 := 50) (lv2 := [(0, .inr (.inr (some (this)))), (1, .inl (p1)), (2, .inl (p2)), (3, .inl (p3))]) (st2 := [.inl (p3), .inl (sd_s (sd_s M (this + 4) (M this 6).toNat p1) (this + 5) (sd_s M (this + 4) (M this 6).toNat p1 this 6).toNat p2 this 6), .inr (.inr (some (this + 6)))]) rfl ?_
        obtain ⟨g6, h⟩ := sd_if h
        refine sd_b_si (sd_oa h_this (by decide) (off := 6) (List.mem_of_getElem? (i := 5) rfl)) g6 rfl ?_
        refine sd_b_go 2 (pc2 := 53) (lv2 := [(0, .inr (.inr (some (this)))), (1, .inl (p1)), (2, .inl (p2)), (3, .inl (p3))]) (st2 := [.inr (.inr (some (this))), .inr (.inr (some (this)))]) rfl ?_
        refine sd_b_gi (k := 6) h_this rfl rfl rfl ?_
        refine sd_b_go 2 (pc2 := 58) (lv2 := [(0, .inr (.inr (some (this)))), (1, .inl (p1)), (2, .inl (p2)), (3, .inl (p3))]) (st2 := [.inl (sd_w ((sd_s (sd_s (sd_s M (this + 4) (M this 6).toNat p1) (this + 5) (sd_s M (this + 4) (M this 6).toNat p1 this 6).toNat p2) (this + 6) (sd_s (sd_s M (this + 4) (M this 6).toNat p1) (this + 5) (sd_s M (this + 4) (M this 6).toNat p1 this 6).toNat p2 this 6).toNat p3 this 6) + 1)), .inr (.inr (some (this)))]) rfl ?_
        refine sd_b_pi (k := 6) h_this rfl rfl rfl rfl rfl ?_
        refine sd_b_go 1 (pc2 := 62) (lv2 := [(0, .inr (.inr (some (this)))), (1, .inl (p1)), (2, .inl (p2)), (3, .inl (p3))]) (st2 := [.inr (.inr (some (this)))]) rfl ?_
        refine sd_b_gr (k := 5) h_this rfl rfl rfl ?_
        refine sd_b_go 2 (pc2 := 67) (lv2 := [(0, .inr (.inr (some (this)))), (1, .inl (p1)), (2, .inl (p2)), (3, .inl (p3))]) (st2 := [.inl (p1), .inr (.inr (some (this + 3))), .inl (p1), .inr (.inr (some (this + 3)))]) rfl ?_
        obtain ⟨g7, h⟩ := sd_if h
        refine sd_b_ai (sd_oa h_this (by decide) (off := 3) (List.mem_of_getElem? (i := 2) rfl)) g7 rfl ?_
        refine sd_b_go 2 (pc2 := 70) (lv2 := [(0, .inr (.inr (some (this)))), (1, .inl (p1)), (2, .inl (p2)), (3, .inl (p3))]) (st2 := [.inl (sd_w (((sd_s (sd_s (sd_s (sd_s M (this + 4) (M this 6).toNat p1) (this + 5) (sd_s M (this + 4) (M this 6).toNat p1 this 6).toNat p2) (this + 6) (sd_s (sd_s M (this + 4) (M this 6).toNat p1) (this + 5) (sd_s M (this + 4) (M this 6).toNat p1 this 6).toNat p2 this 6).toNat p3) this 6 (sd_w ((sd_s (sd_s (sd_s M (this + 4) (M this 6).toNat p1) (this + 5) (sd_s M (this + 4) (M this 6).toNat p1 this 6).toNat p2) (this + 6) (sd_s (sd_s M (this + 4) (M this 6).toNat p1) (this + 5) (sd_s M (this + 4) (M this 6).toNat p1 this 6).toNat p2 this 6).toNat p3 this 6) + 1))) (this + 3) p1.toNat) + 1)), .inl (p1), .inr (.inr (some (this + 3)))]) rfl ?_
        obtain ⟨g8, h⟩ := sd_if h
        refine sd_b_si (sd_oa h_this (by decide) (off := 3) (List.mem_of_getElem? (i := 2) rfl)) g8 rfl ?_
        cases h
        exact sd_b_rt rfl rfl rfl
theorem m_X8_addNeed {X : Nat → List sd_V → List sd_E → sd_A → Prop} {d : Nat} (hd : 1 ≤ d) {this : Nat} (h_this : sd_o this 8) {p1 : Int} {p2 : Int} {p3 : Int} {M : sd_M} {Rr : Int × sd_M} (h : f_X8_addNeed this p1 p2 p3 M = some Rr) : sd_Cal X d 70 [.inr (.inr (some (this))), .inl (p1), .inl (p2), .inl (p3)] (sd_rp M) (none, sd_rp Rr.2, 0, 0) := by
  obtain ⟨d, rfl⟩ : ∃ d2, d = d2 + 1 := ⟨d - 1, by omega⟩
  exact sd_cal_of sd_i_X8_addNeed (Nat.le_of_ble_eq_true rfl) (t_X8_addNeed (by omega) this h_this p1 p2 p3 M Rr h)
-- X8_findNeed
def sd_q_X8_findNeed : sd_MI := (yX8_findNeed, cX8_findNeed, 5, (some .int), 8, 2, sd_t_X8_findNeed)
set_option maxRecDepth 4000 in
theorem sd_i_X8_findNeed : sd_mL[71]? = some sd_q_X8_findNeed := rfl
def f_X8_findNeed_36 (k5 : Int → Int → Int → Int → sd_M → Option (Int × sd_M)) (this : Nat) (v1 : Int) (v2 : Int) (v3 : Int) (v4 : Int) (M : sd_M) : Option (Int × sd_M) := k5 v1 v2 v3 (sd_w (v4 + 1)) M
set_option maxRecDepth 4000 in
theorem t_X8_findNeed_36 {X : Nat → List sd_V → List sd_E → sd_A → Prop} {d : Nat} (hd : 0 ≤ d) (this : Nat) (h_this : sd_o this 8) (k5 : Int → Int → Int → Int → sd_M → Option (Int × sd_M)) (hk5 : ∀ (v1 : Int) (v2 : Int) (v3 : Int) (v4 : Int) (M : sd_M) (Rr : Int × sd_M), k5 v1 v2 v3 v4 M = some Rr → sd_B X d sd_q_X8_findNeed 5 [(0, .inr (.inr (some (this)))), (1, .inl (v1)), (2, .inl (v2)), (3, .inl (v3)), (4, .inl (v4))] [] M (some (.inl Rr.1), sd_rp Rr.2, 0, 0)) (v1 : Int) (v2 : Int) (v3 : Int) (v4 : Int) (M : sd_M) (Rr : Int × sd_M) (h : f_X8_findNeed_36 k5 this v1 v2 v3 v4 M = some Rr) : sd_B X d sd_q_X8_findNeed 36 [(0, .inr (.inr (some (this)))), (1, .inl (v1)), (2, .inl (v2)), (3, .inl (v3)), (4, .inl (v4))] [] M (some (.inl Rr.1), sd_rp Rr.2, 0, 0) := by
  unfold f_X8_findNeed_36 at h
  refine sd_b_go 2 (pc2 := 5) (lv2 := [(4, .inl (sd_w (v4 + 1))), (0, .inr (.inr (some (this)))), (1, .inl (v1)), (2, .inl (v2)), (3, .inl (v3))]) (st2 := []) rfl ?_
  refine sd_b_wk [(0, .inr (.inr (some (this)))), (1, .inl (v1)), (2, .inl (v2)), (3, .inl (v3)), (4, .inl (sd_w (v4 + 1)))] (List.forall_mem_cons.mpr ⟨rfl, (List.forall_mem_cons.mpr ⟨rfl, (List.forall_mem_cons.mpr ⟨rfl, (List.forall_mem_cons.mpr ⟨rfl, (List.forall_mem_cons.mpr ⟨rfl, (fun _ h0 => absurd h0 List.not_mem_nil)⟩)⟩)⟩)⟩)⟩) ?_
  exact hk5 v1 v2 v3 (sd_w (v4 + 1)) M _ h
def f_X8_findNeed_5 (this : Nat) : Nat → Int → Int → Int → Int → sd_M → Option (Int × sd_M)
  | 0, _, _, _, _, _ => none
  | n + 1, v1, v2, v3, v4, M => if (M this 6) ≤ v4 then (some ((-1), M)) else (if 0 ≤ v4 ∧ v4 < 12 then (if (M (this + 4) v4.toNat) = v1 then (if v3 = v2 then (some (v4, M)) else (f_X8_findNeed_36 (f_X8_findNeed_5 this n) this v1 v2 (sd_w (v3 + 1)) v4 M)) else (f_X8_findNeed_36 (f_X8_findNeed_5 this n) this v1 v2 v3 v4 M)) else none)
set_option maxRecDepth 4000 in
theorem t_X8_findNeed_5 {X : Nat → List sd_V → List sd_E → sd_A → Prop} {d : Nat} (hd : 0 ≤ d) (this : Nat) (h_this : sd_o this 8) : ∀ (n : Nat) (v1 : Int) (v2 : Int) (v3 : Int) (v4 : Int) (M : sd_M) (Rr : Int × sd_M), f_X8_findNeed_5 this n v1 v2 v3 v4 M = some Rr → sd_B X d sd_q_X8_findNeed 5 [(0, .inr (.inr (some (this)))), (1, .inl (v1)), (2, .inl (v2)), (3, .inl (v3)), (4, .inl (v4))] [] M (some (.inl Rr.1), sd_rp Rr.2, 0, 0) := by
  intro n
  induction n with
  | zero => intro v1 v2 v3 v4 M Rr h; cases h
  | succ n ih =>
    intro v1 v2 v3 v4 M Rr h
    rw [f_X8_findNeed_5] at h
    refine sd_b_go 2 (pc2 := 8) (lv2 := [(0, .inr (.inr (some (this)))), (1, .inl (v1)), (2, .inl (v2)), (3, .inl (v3)), (4, .inl (v4))]) (st2 := [.inr (.inr (some (this))), .inl (v4)]) rfl ?_
    refine sd_b_gi (k := 6) h_this rfl rfl rfl ?_
    by_cases c1 : (M this 6) ≤ v4
    · rw [if_pos c1] at h
      refine sd_b_ct (c := .ge) (tgt := 42) rfl (decide_eq_true c1) (by decide) ?_
      refine sd_b_go 1 (pc2 := 43) (lv2 := [(0, .inr (.inr (some (this)))), (1, .inl (v1)), (2, .inl (v2)), (3, .inl (v3)), (4, .inl (v4))]) (st2 := [.inl ((-1))]) rfl ?_
      cases h
      exact sd_b_rt rfl rfl rfl
    · rw [if_neg c1] at h
      refine sd_b_cf (c := .ge) rfl (decide_eq_false c1) (by decide) ?_
      refine sd_b_go 1 (pc2 := 15) (lv2 := [(0, .inr (.inr (some (this)))), (1, .inl (v1)), (2, .inl (v2)), (3, .inl (v3)), (4, .inl (v4))]) (st2 := [.inr (.inr (some (this)))]) rfl ?_
      refine sd_b_gr (k := 7) h_this rfl rfl rfl ?_
      refine sd_b_go 1 (pc2 := 20) (lv2 := [(0, .inr (.inr (some (this)))), (1, .inl (v1)), (2, .inl (v2)), (3, .inl (v3)), (4, .inl (v4))]) (st2 := [.inl (v4), .inr (.inr (some (this + 4)))]) rfl ?_
      obtain ⟨g2, h⟩ := sd_if h
      refine sd_b_ai (sd_oa h_this (by decide) (off := 4) (List.mem_of_getElem? (i := 3) rfl)) g2 rfl ?_
      refine sd_b_go 1 (pc2 := 22) (lv2 := [(0, .inr (.inr (some (this)))), (1, .inl (v1)), (2, .inl (v2)), (3, .inl (v3)), (4, .inl (v4))]) (st2 := [.inl (v1), .inl (M (this + 4) v4.toNat)]) rfl ?_
      by_cases c3 : (M (this + 4) v4.toNat) = v1
      · rw [if_pos c3] at h
        refine sd_b_cf (c := .ne) rfl (decide_eq_false (not_not_intro c3)) (by decide) ?_
        refine sd_b_go 2 (pc2 := 27) (lv2 := [(0, .inr (.inr (some (this)))), (1, .inl (v1)), (2, .inl (v2)), (3, .inl (v3)), (4, .inl (v4))]) (st2 := [.inl (v2), .inl (v3)]) rfl ?_
        by_cases c4 : v3 = v2
        · rw [if_pos c4] at h
          refine sd_b_cf (c := .ne) rfl (decide_eq_false (not_not_intro c4)) (by decide) ?_
          refine sd_b_go 1 (pc2 := 32) (lv2 := [(0, .inr (.inr (some (this)))), (1, .inl (v1)), (2, .inl (v2)), (3, .inl (v3)), (4, .inl (v4))]) (st2 := [.inl (v4)]) rfl ?_
          cases h
          exact sd_b_rt rfl rfl rfl
        · rw [if_neg c4] at h
          refine sd_b_ct (c := .ne) (tgt := 33) rfl (decide_eq_true c4) (by decide) ?_
          refine sd_b_go 1 (pc2 := 36) (lv2 := [(3, .inl (sd_w (v3 + 1))), (0, .inr (.inr (some (this)))), (1, .inl (v1)), (2, .inl (v2)), (4, .inl (v4))]) (st2 := []) rfl ?_
          refine sd_b_wk [(0, .inr (.inr (some (this)))), (1, .inl (v1)), (2, .inl (v2)), (3, .inl (sd_w (v3 + 1))), (4, .inl (v4))] (List.forall_mem_cons.mpr ⟨rfl, (List.forall_mem_cons.mpr ⟨rfl, (List.forall_mem_cons.mpr ⟨rfl, (List.forall_mem_cons.mpr ⟨rfl, (List.forall_mem_cons.mpr ⟨rfl, (fun _ h0 => absurd h0 List.not_mem_nil)⟩)⟩)⟩)⟩)⟩) ?_
          exact t_X8_findNeed_36 hd this h_this (f_X8_findNeed_5 this n) ih v1 v2 (sd_w (v3 + 1)) v4 M _ h
      · rw [if_neg c3] at h
        refine sd_b_ct (c := .ne) (tgt := 36) rfl (decide_eq_true c3) (by decide) ?_
        refine sd_b_wk [(0, .inr (.inr (some (this)))), (1, .inl (v1)), (2, .inl (v2)), (3, .inl (v3)), (4, .inl (v4))] (List.forall_mem_cons.mpr ⟨rfl, (List.forall_mem_cons.mpr ⟨rfl, (List.forall_mem_cons.mpr ⟨rfl, (List.forall_mem_cons.mpr ⟨rfl, (List.forall_mem_cons.mpr ⟨rfl, (fun _ h0 => absurd h0 List.not_mem_nil)⟩)⟩)⟩)⟩)⟩) ?_
        exact t_X8_findNeed_36 hd this h_this (f_X8_findNeed_5 this n) ih v1 v2 v3 v4 M _ h
def f_X8_findNeed (this : Nat) (p1 : Int) (p2 : Int) (M : sd_M) : Option (Int × sd_M) := f_X8_findNeed_5 this 4000 p1 p2 0 0 M
set_option maxRecDepth 4000 in
theorem t_X8_findNeed {X : Nat → List sd_V → List sd_E → sd_A → Prop} {d : Nat} (hd : 0 ≤ d) (this : Nat) (h_this : sd_o this 8) (p1 : Int) (p2 : Int) (M : sd_M) (Rr : Int × sd_M) (h : f_X8_findNeed this p1 p2 M = some Rr) : sd_B X d sd_q_X8_findNeed 0 [(0, .inr (.inr (some (this)))), (1, .inl (p1)), (2, .inl (p2))] [] M (some (.inl Rr.1), sd_rp Rr.2, 0, 0) := by
  unfold f_X8_findNeed at h
  refine sd_b_go 4 (pc2 := 5) (lv2 := [(4, .inl (0)), (3, .inl (0)), (0, .inr (.inr (some (this)))), (1, .inl (p1)), (2, .inl (p2))]) (st2 := []) rfl ?_
  refine sd_b_wk [(0, .inr (.inr (some (this)))), (1, .inl (p1)), (2, .inl (p2)), (3, .inl (0)), (4, .inl (0))] (List.forall_mem_cons.mpr ⟨rfl, (List.forall_mem_cons.mpr ⟨rfl, (List.forall_mem_cons.mpr ⟨rfl, (List.forall_mem_cons.mpr ⟨rfl, (List.forall_mem_cons.mpr ⟨rfl, (fun _ h0 => absurd h0 List.not_mem_nil)⟩)⟩)⟩)⟩)⟩) ?_
  exact t_X8_findNeed_5 hd this h_this 4000 p1 p2 0 0 M _ h
theorem m_X8_findNeed {X : Nat → List sd_V → List sd_E → sd_A → Prop} {d : Nat} (hd : 1 ≤ d) {this : Nat} (h_this : sd_o this 8) {p1 : Int} {p2 : Int} {M : sd_M} {Rr : Int × sd_M} (h : f_X8_findNeed this p1 p2 M = some Rr) : sd_Cal X d 71 [.inr (.inr (some (this))), .inl (p1), .inl (p2)] (sd_rp M) (some (.inl Rr.1), sd_rp Rr.2, 0, 0) := by
  obtain ⟨d, rfl⟩ : ∃ d2, d = d2 + 1 := ⟨d - 1, by omega⟩
  exact sd_cal_of sd_i_X8_findNeed (Nat.le_of_ble_eq_true rfl) (t_X8_findNeed (by omega) this h_this p1 p2 M Rr h)
-- X9_feed
def sd_q_X9_feed : sd_MI := (yX9_feed, cX9_feed, 6, (some .int), 9, 5, sd_t_X9_feed)
set_option maxRecDepth 4000 in
theorem sd_i_X9_feed : sd_mL[73]? = some sd_q_X9_feed := rfl
def f_X9_feed (p1 : Int) (p2 : Int) (p3 : Int) (p4 : Int) (p5 : Int) (M : sd_M) : Option (Int × sd_M) := if (sd_w ((M 1 1) + 20)) ≤ 400 then ((f_X7_append p1 M).bind fun r2 => (f_X7_append p2 r2.2).bind fun r3 => (f_X7_append p3 r3.2).bind fun r4 => (f_X7_append p4 r4.2).bind fun r5 => (f_X7_append p5 r5.2).bind fun r6 => some (r6.2 1 1, r6.2)) else (some ((-1), M))
set_option maxRecDepth 4000 in
theorem t_X9_feed {X : Nat → List sd_V → List sd_E → sd_A → Prop} {d : Nat} (hd : 1 ≤ d) (p1 : Int) (p2 : Int) (p3 : Int) (p4 : Int) (p5 : Int) (M : sd_M) (Rr : Int × sd_M) (h : f_X9_feed p1 p2 p3 p4 p5 M = some Rr) : sd_B X d sd_q_X9_feed 0 [(0, .inr (.inr (some (0)))), (1, .inl (p1)), (2, .inl (p2)), (3, .inl (p3)), (4, .inl (p4)), (5, .inl (p5))] [] M (some (.inl Rr.1), sd_rp Rr.2, 0, 0) := by
  unfold f_X9_feed at h
  refine sd_b_go 1 (pc2 := 1) (lv2 := [(0, .inr (.inr (some (0)))), (1, .inl (p1)), (2, .inl (p2)), (3, .inl (p3)), (4, .inl (p4)), (5, .inl (p5))]) (st2 := [.inr (.inr (some (0)))]) rfl ?_
  refine sd_b_gr (k := 0) sd_o_0 rfl rfl rfl ?_
  refine sd_b_gi (k := 1) sd_o_1 rfl rfl rfl ?_
  refine sd_b_go 3 (pc2 := 13) (lv2 := [(0, .inr (.inr (some (0)))), (1, .inl (p1)), (2, .inl (p2)), (3, .inl (p3)), (4, .inl (p4)), (5, .inl (p5))]) (st2 := [.inl (400), .inl (sd_w ((M 1 1) + 20))]) rfl ?_
  by_cases c1 : (sd_w ((M 1 1) + 20)) ≤ 400
  · rw [if_pos c1] at h
    refine sd_b_ct (c := .le) (tgt := 18) rfl (decide_eq_true c1) (by decide) ?_
    refine sd_b_go 1 (pc2 := 19) (lv2 := [(0, .inr (.inr (some (0)))), (1, .inl (p1)), (2, .inl (p2)), (3, .inl (p3)), (4, .inl (p4)), (5, .inl (p5))]) (st2 := [.inr (.inr (some (0)))]) rfl ?_
    refine sd_b_gr (k := 0) sd_o_0 rfl rfl rfl ?_
    refine sd_b_go 1 (pc2 := 23) (lv2 := [(0, .inr (.inr (some (0)))), (1, .inl (p1)), (2, .inl (p2)), (3, .inl (p3)), (4, .inl (p4)), (5, .inl (p5))]) (st2 := [.inl (p1), .inr (.inr (some (1)))]) rfl ?_
    obtain ⟨r2, e2, h⟩ := sd_bnd h
    refine sd_b_call [.inr (.inr (some (1))), .inl (p1)] [] rfl rfl sd_i_X7_append rfl rfl (Nat.le_of_ble_eq_true rfl) (sd_rc_v sd_o_1) (m_X7_append (by omega) e2) ?_
    refine sd_b_go 1 (pc2 := 27) (lv2 := [(0, .inr (.inr (some (0)))), (1, .inl (p1)), (2, .inl (p2)), (3, .inl (p3)), (4, .inl (p4)), (5, .inl (p5))]) (st2 := [.inr (.inr (some (0)))]) rfl ?_
    refine sd_b_gr (k := 0) sd_o_0 rfl rfl rfl ?_
    refine sd_b_go 1 (pc2 := 31) (lv2 := [(0, .inr (.inr (some (0)))), (1, .inl (p1)), (2, .inl (p2)), (3, .inl (p3)), (4, .inl (p4)), (5, .inl (p5))]) (st2 := [.inl (p2), .inr (.inr (some (1)))]) rfl ?_
    obtain ⟨r3, e3, h⟩ := sd_bnd h
    refine sd_b_call [.inr (.inr (some (1))), .inl (p2)] [] rfl rfl sd_i_X7_append rfl rfl (Nat.le_of_ble_eq_true rfl) (sd_rc_v sd_o_1) (m_X7_append (by omega) e3) ?_
    refine sd_b_go 1 (pc2 := 35) (lv2 := [(0, .inr (.inr (some (0)))), (1, .inl (p1)), (2, .inl (p2)), (3, .inl (p3)), (4, .inl (p4)), (5, .inl (p5))]) (st2 := [.inr (.inr (some (0)))]) rfl ?_
    refine sd_b_gr (k := 0) sd_o_0 rfl rfl rfl ?_
    refine sd_b_go 1 (pc2 := 39) (lv2 := [(0, .inr (.inr (some (0)))), (1, .inl (p1)), (2, .inl (p2)), (3, .inl (p3)), (4, .inl (p4)), (5, .inl (p5))]) (st2 := [.inl (p3), .inr (.inr (some (1)))]) rfl ?_
    obtain ⟨r4, e4, h⟩ := sd_bnd h
    refine sd_b_call [.inr (.inr (some (1))), .inl (p3)] [] rfl rfl sd_i_X7_append rfl rfl (Nat.le_of_ble_eq_true rfl) (sd_rc_v sd_o_1) (m_X7_append (by omega) e4) ?_
    refine sd_b_go 1 (pc2 := 43) (lv2 := [(0, .inr (.inr (some (0)))), (1, .inl (p1)), (2, .inl (p2)), (3, .inl (p3)), (4, .inl (p4)), (5, .inl (p5))]) (st2 := [.inr (.inr (some (0)))]) rfl ?_
    refine sd_b_gr (k := 0) sd_o_0 rfl rfl rfl ?_
    refine sd_b_go 1 (pc2 := 48) (lv2 := [(0, .inr (.inr (some (0)))), (1, .inl (p1)), (2, .inl (p2)), (3, .inl (p3)), (4, .inl (p4)), (5, .inl (p5))]) (st2 := [.inl (p4), .inr (.inr (some (1)))]) rfl ?_
    obtain ⟨r5, e5, h⟩ := sd_bnd h
    refine sd_b_call [.inr (.inr (some (1))), .inl (p4)] [] rfl rfl sd_i_X7_append rfl rfl (Nat.le_of_ble_eq_true rfl) (sd_rc_v sd_o_1) (m_X7_append (by omega) e5) ?_
    refine sd_b_go 1 (pc2 := 52) (lv2 := [(0, .inr (.inr (some (0)))), (1, .inl (p1)), (2, .inl (p2)), (3, .inl (p3)), (4, .inl (p4)), (5, .inl (p5))]) (st2 := [.inr (.inr (some (0)))]) rfl ?_
    refine sd_b_gr (k := 0) sd_o_0 rfl rfl rfl ?_
    refine sd_b_go 1 (pc2 := 57) (lv2 := [(0, .inr (.inr (some (0)))), (1, .inl (p1)), (2, .inl (p2)), (3, .inl (p3)), (4, .inl (p4)), (5, .inl (p5))]) (st2 := [.inl (p5), .inr (.inr (some (1)))]) rfl ?_
    obtain ⟨r6, e6, h⟩ := sd_bnd h
    refine sd_b_call [.inr (.inr (some (1))), .inl (p5)] [] rfl rfl sd_i_X7_append rfl rfl (Nat.le_of_ble_eq_true rfl) (sd_rc_v sd_o_1) (m_X7_append (by omega) e6) ?_
    refine sd_b_go 1 (pc2 := 61) (lv2 := [(0, .inr (.inr (some (0)))), (1, .inl (p1)), (2, .inl (p2)), (3, .inl (p3)), (4, .inl (p4)), (5, .inl (p5))]) (st2 := [.inr (.inr (some (0)))]) rfl ?_
    refine sd_b_gr (k := 0) sd_o_0 rfl rfl rfl ?_
    refine sd_b_gi (k := 1) sd_o_1 rfl rfl rfl ?_
    cases h
    exact sd_b_rt rfl rfl rfl
  · rw [if_neg c1] at h
    refine sd_b_cf (c := .le) rfl (decide_eq_false c1) (by decide) ?_
    refine sd_b_go 1 (pc2 := 17) (lv2 := [(0, .inr (.inr (some (0)))), (1, .inl (p1)), (2, .inl (p2)), (3, .inl (p3)), (4, .inl (p4)), (5, .inl (p5))]) (st2 := [.inl ((-1))]) rfl ?_
    cases h
    exact sd_b_rt rfl rfl rfl
theorem m_X9_feed {X : Nat → List sd_V → List sd_E → sd_A → Prop} {d : Nat} (hd : 2 ≤ d) {p1 : Int} {p2 : Int} {p3 : Int} {p4 : Int} {p5 : Int} {M : sd_M} {Rr : Int × sd_M} (h : f_X9_feed p1 p2 p3 p4 p5 M = some Rr) : sd_Cal X d 73 [.inr (.inr (some (0))), .inl (p1), .inl (p2), .inl (p3), .inl (p4), .inl (p5)] (sd_rp M) (some (.inl Rr.1), sd_rp Rr.2, 0, 0) := by
  obtain ⟨d, rfl⟩ : ∃ d2, d = d2 + 1 := ⟨d - 1, by omega⟩
  exact sd_cal_of sd_i_X9_feed (Nat.le_of_ble_eq_true rfl) (t_X9_feed (by omega) p1 p2 p3 p4 p5 M Rr h)
-- X9_end
def sd_q_X9_end : sd_MI := (yX9_end, cX9_end, 2, (some .int), 9, 1, sd_t_X9_end)
set_option maxRecDepth 4000 in
theorem sd_i_X9_end : sd_mL[74]? = some sd_q_X9_end := rfl
def f_X9_end (p1 : Int) (M : sd_M) : Option (Int × sd_M) := if p1 < 0 then (some ((-1), M)) else (if p1 ≤ (M 1 1) then (some (p1, sd_s M 1 1 p1)) else (some ((-1), M)))
set_option maxRecDepth 4000 in
theorem t_X9_end {X : Nat → List sd_V → List sd_E → sd_A → Prop} {d : Nat} (hd : 0 ≤ d) (p1 : Int) (M : sd_M) (Rr : Int × sd_M) (h : f_X9_end p1 M = some Rr) : sd_B X d sd_q_X9_end 0 [(0, .inr (.inr (some (0)))), (1, .inl (p1))] [] M (some (.inl Rr.1), sd_rp Rr.2, 0, 0) := by
  unfold f_X9_end at h
  refine sd_b_go 1 (pc2 := 1) (lv2 := [(0, .inr (.inr (some (0)))), (1, .inl (p1))]) (st2 := [.inl (p1)]) rfl ?_
  by_cases c1 : p1 < 0
  · rw [if_pos c1] at h
    refine sd_b_zt (c := .lt) (tgt := 15) rfl (decide_eq_true c1) (by decide) ?_
    refine sd_b_go 1 (pc2 := 16) (lv2 := [(0, .inr (.inr (some (0)))), (1, .inl (p1))]) (st2 := [.inl ((-1))]) rfl ?_
    cases h
    exact sd_b_rt rfl rfl rfl
  · rw [if_neg c1] at h
    refine sd_b_zf (c := .lt) rfl (decide_eq_false c1) (by decide) ?_
    refine sd_b_go 2 (pc2 := 6) (lv2 := [(0, .inr (.inr (some (0)))), (1, .inl (p1))]) (st2 := [.inr (.inr (some (0))), .inl (p1)]) rfl ?_
    refine sd_b_gr (k := 0) sd_o_0 rfl rfl rfl ?_
    refine sd_b_gi (k := 1) sd_o_1 rfl rfl rfl ?_
    by_cases c2 : p1 ≤ (M 1 1)
    · rw [if_pos c2] at h
      refine sd_b_ct (c := .le) (tgt := 17) rfl (decide_eq_true c2) (by decide) ?_
      refine sd_b_go 1 (pc2 := 18) (lv2 := [(0, .inr (.inr (some (0)))), (1, .inl (p1))]) (st2 := [.inr (.inr (some (0)))]) rfl ?_
      refine sd_b_gr (k := 0) sd_o_0 rfl rfl rfl ?_
      refine sd_b_go 1 (pc2 := 22) (lv2 := [(0, .inr (.inr (some (0)))), (1, .inl (p1))]) (st2 := [.inl (p1), .inr (.inr (some (1)))]) rfl ?_
      refine sd_b_pi (k := 1) sd_o_1 rfl rfl rfl rfl rfl ?_
      refine sd_b_go 1 (pc2 := 26) (lv2 := [(0, .inr (.inr (some (0)))), (1, .inl (p1))]) (st2 := [.inl (p1)]) rfl ?_
      cases h
      exact sd_b_rt rfl rfl rfl
    · rw [if_neg c2] at h
      refine sd_b_cf (c := .le) rfl (decide_eq_false c2) (by decide) ?_
      refine sd_b_go 1 (pc2 := 16) (lv2 := [(0, .inr (.inr (some (0)))), (1, .inl (p1))]) (st2 := [.inl ((-1))]) rfl ?_
      cases h
      exact sd_b_rt rfl rfl rfl
theorem m_X9_end {X : Nat → List sd_V → List sd_E → sd_A → Prop} {d : Nat} (hd : 1 ≤ d) {p1 : Int} {M : sd_M} {Rr : Int × sd_M} (h : f_X9_end p1 M = some Rr) : sd_Cal X d 74 [.inr (.inr (some (0))), .inl (p1)] (sd_rp M) (some (.inl Rr.1), sd_rp Rr.2, 0, 0) := by
  obtain ⟨d, rfl⟩ : ∃ d2, d = d2 + 1 := ⟨d - 1, by omega⟩
  exact sd_cal_of sd_i_X9_end (Nat.le_of_ble_eq_true rfl) (t_X9_end (by omega) p1 M Rr h)
-- X9_force
def sd_q_X9_force : sd_MI := (yX9_force, cX9_force, 3, (some .int), 9, 1, sd_t_X9_force)
set_option maxRecDepth 4000 in
theorem sd_i_X9_force : sd_mL[77]? = some sd_q_X9_force := rfl
def f_X9_force (p1 : Int) (M : sd_M) : Option (Int × sd_M) := if p1 < ((-1)) then (some ((-2), M)) else (if p1 < (M 0 4) then (some (M 58 3, sd_s M 58 3 p1)) else (some ((-2), M)))
set_option maxRecDepth 4000 in
theorem t_X9_force {X : Nat → List sd_V → List sd_E → sd_A → Prop} {d : Nat} (hd : 0 ≤ d) (p1 : Int) (M : sd_M) (Rr : Int × sd_M) (h : f_X9_force p1 M = some Rr) : sd_B X d sd_q_X9_force 0 [(0, .inr (.inr (some (0)))), (1, .inl (p1))] [] M (some (.inl Rr.1), sd_rp Rr.2, 0, 0) := by
  unfold f_X9_force at h
  refine sd_b_go 2 (pc2 := 2) (lv2 := [(0, .inr (.inr (some (0)))), (1, .inl (p1))]) (st2 := [.inl ((-1)), .inl (p1)]) rfl ?_
  by_cases c1 : p1 < ((-1))
  · rw [if_pos c1] at h
    refine sd_b_ct (c := .lt) (tgt := 13) rfl (decide_eq_true c1) (by decide) ?_
    refine sd_b_go 1 (pc2 := 15) (lv2 := [(0, .inr (.inr (some (0)))), (1, .inl (p1))]) (st2 := [.inl ((-2))]) rfl ?_
    cases h
    exact sd_b_rt rfl rfl rfl
  · rw [if_neg c1] at h
    refine sd_b_cf (c := .lt) rfl (decide_eq_false c1) (by decide) ?_
    refine sd_b_go 2 (pc2 := 7) (lv2 := [(0, .inr (.inr (some (0)))), (1, .inl (p1))]) (st2 := [.inr (.inr (some (0))), .inl (p1)]) rfl ?_
    refine sd_b_gi (k := 4) sd_o_0 rfl rfl rfl ?_
    by_cases c2 : p1 < (M 0 4)
    · rw [if_pos c2] at h
      refine sd_b_ct (c := .lt) (tgt := 16) rfl (decide_eq_true c2) (by decide) ?_
      refine sd_b_go 1 (pc2 := 17) (lv2 := [(0, .inr (.inr (some (0)))), (1, .inl (p1))]) (st2 := [.inr (.inr (some (0)))]) rfl ?_
      refine sd_b_gr (k := 5) sd_o_0 rfl rfl rfl ?_
      refine sd_b_gi (k := 3) sd_o_58 rfl rfl rfl ?_
      refine sd_b_go 2 (pc2 := 25) (lv2 := [(2, .inl (M 58 3)), (0, .inr (.inr (some (0)))), (1, .inl (p1))]) (st2 := [.inr (.inr (some (0)))]) rfl ?_
      refine sd_b_gr (k := 5) sd_o_0 rfl rfl rfl ?_
      refine sd_b_go 1 (pc2 := 29) (lv2 := [(2, .inl (M 58 3)), (0, .inr (.inr (some (0)))), (1, .inl (p1))]) (st2 := [.inl (p1), .inr (.inr (some (58)))]) rfl ?_
      refine sd_b_pi (k := 3) sd_o_58 rfl rfl rfl rfl rfl ?_
      refine sd_b_go 1 (pc2 := 33) (lv2 := [(2, .inl (M 58 3)), (0, .inr (.inr (some (0)))), (1, .inl (p1))]) (st2 := [.inl (M 58 3)]) rfl ?_
      cases h
      exact sd_b_rt rfl rfl rfl
    · rw [if_neg c2] at h
      refine sd_b_cf (c := .lt) rfl (decide_eq_false c2) (by decide) ?_
      refine sd_b_go 1 (pc2 := 15) (lv2 := [(0, .inr (.inr (some (0)))), (1, .inl (p1))]) (st2 := [.inl ((-2))]) rfl ?_
      cases h
      exact sd_b_rt rfl rfl rfl
theorem m_X9_force {X : Nat → List sd_V → List sd_E → sd_A → Prop} {d : Nat} (hd : 1 ≤ d) {p1 : Int} {M : sd_M} {Rr : Int × sd_M} (h : f_X9_force p1 M = some Rr) : sd_Cal X d 77 [.inr (.inr (some (0))), .inl (p1)] (sd_rp M) (some (.inl Rr.1), sd_rp Rr.2, 0, 0) := by
  obtain ⟨d, rfl⟩ : ∃ d2, d = d2 + 1 := ⟨d - 1, by omega⟩
  exact sd_cal_of sd_i_X9_force (Nat.le_of_ble_eq_true rfl) (t_X9_force (by omega) p1 M Rr h)
-- X9_line
def sd_q_X9_line : sd_MI := (yX9_line, cX9_line, 2, (some .int), 9, 1, sd_t_X9_line)
set_option maxRecDepth 4000 in
theorem sd_i_X9_line : sd_mL[80]? = some sd_q_X9_line := rfl
def f_X9_line (p1 : Int) (M : sd_M) : Option (Int × sd_M) := if p1 < 0 then (some ((-1), M)) else (if (M 66 3) ≤ p1 then (some ((-1), M)) else (if 0 ≤ p1 ∧ p1 < 9 then (some (M 72 p1.toNat, M)) else none))
set_option maxRecDepth 4000 in
theorem t_X9_line {X : Nat → List sd_V → List sd_E → sd_A → Prop} {d : Nat} (hd : 0 ≤ d) (p1 : Int) (M : sd_M) (Rr : Int × sd_M) (h : f_X9_line p1 M = some Rr) : sd_B X d sd_q_X9_line 0 [(0, .inr (.inr (some (0)))), (1, .inl (p1))] [] M (some (.inl Rr.1), sd_rp Rr.2, 0, 0) := by
  unfold f_X9_line at h
  refine sd_b_go 1 (pc2 := 1) (lv2 := [(0, .inr (.inr (some (0)))), (1, .inl (p1))]) (st2 := [.inl (p1)]) rfl ?_
  by_cases c1 : p1 < 0
  · rw [if_pos c1] at h
    refine sd_b_zt (c := .lt) (tgt := 33) rfl (decide_eq_true c1) (by decide) ?_
    refine sd_b_go 1 (pc2 := 34) (lv2 := [(0, .inr (.inr (some (0)))), (1, .inl (p1))]) (st2 := [.inl ((-1))]) rfl ?_
    cases h
    exact sd_b_rt rfl rfl rfl
  · rw [if_neg c1] at h
    refine sd_b_zf (c := .lt) rfl (decide_eq_false c1) (by decide) ?_
    refine sd_b_go 2 (pc2 := 6) (lv2 := [(0, .inr (.inr (some (0)))), (1, .inl (p1))]) (st2 := [.inr (.inr (some (0))), .inl (p1)]) rfl ?_
    refine sd_b_gr (k := 5) sd_o_0 rfl rfl rfl ?_
    refine sd_b_gr (k := 1) sd_o_58 rfl rfl rfl ?_
    refine sd_b_gi (k := 3) sd_o_66 rfl rfl rfl ?_
    by_cases c2 : (M 66 3) ≤ p1
    · rw [if_pos c2] at h
      refine sd_b_ct (c := .ge) (tgt := 33) rfl (decide_eq_true c2) (by decide) ?_
      refine sd_b_go 1 (pc2 := 34) (lv2 := [(0, .inr (.inr (some (0)))), (1, .inl (p1))]) (st2 := [.inl ((-1))]) rfl ?_
      cases h
      exact sd_b_rt rfl rfl rfl
    · rw [if_neg c2] at h
      refine sd_b_cf (c := .ge) rfl (decide_eq_false c2) (by decide) ?_
      refine sd_b_go 1 (pc2 := 19) (lv2 := [(0, .inr (.inr (some (0)))), (1, .inl (p1))]) (st2 := [.inr (.inr (some (0)))]) rfl ?_
      refine sd_b_gr (k := 5) sd_o_0 rfl rfl rfl ?_
      refine sd_b_gr (k := 1) sd_o_58 rfl rfl rfl ?_
      refine sd_b_gr (k := 10) sd_o_66 rfl rfl rfl ?_
      refine sd_b_go 1 (pc2 := 29) (lv2 := [(0, .inr (.inr (some (0)))), (1, .inl (p1))]) (st2 := [.inl (p1), .inr (.inr (some (72)))]) rfl ?_
      obtain ⟨g3, h⟩ := sd_if h
      refine sd_b_ai (sd_oa sd_o_66 (by decide) (off := 6) (List.mem_of_getElem? (i := 5) rfl)) g3 rfl ?_
      refine sd_b_go 1 (pc2 := 34) (lv2 := [(0, .inr (.inr (some (0)))), (1, .inl (p1))]) (st2 := [.inl (M 72 p1.toNat)]) rfl ?_
      cases h
      exact sd_b_rt rfl rfl rfl
theorem m_X9_line {X : Nat → List sd_V → List sd_E → sd_A → Prop} {d : Nat} (hd : 1 ≤ d) {p1 : Int} {M : sd_M} {Rr : Int × sd_M} (h : f_X9_line p1 M = some Rr) : sd_Cal X d 80 [.inr (.inr (some (0))), .inl (p1)] (sd_rp M) (some (.inl Rr.1), sd_rp Rr.2, 0, 0) := by
  obtain ⟨d, rfl⟩ : ∃ d2, d = d2 + 1 := ⟨d - 1, by omega⟩
  exact sd_cal_of sd_i_X9_line (Nat.le_of_ble_eq_true rfl) (t_X9_line (by omega) p1 M Rr h)
-- X9_out
def sd_q_X9_out : sd_MI := (yX9_out, cX9_out, 2, (some .int), 9, 1, sd_t_X9_out)
set_option maxRecDepth 4000 in
theorem sd_i_X9_out : sd_mL[81]? = some sd_q_X9_out := rfl
def f_X9_out (p1 : Int) (M : sd_M) : Option (Int × sd_M) := if p1 < 0 then (some ((-1), M)) else (if (M 66 4) ≤ p1 then (some ((-1), M)) else (if 0 ≤ p1 ∧ p1 < 9 then (some (M 73 p1.toNat, M)) else none))
set_option maxRecDepth 4000 in
theorem t_X9_out {X : Nat → List sd_V → List sd_E → sd_A → Prop} {d : Nat} (hd : 0 ≤ d) (p1 : Int) (M : sd_M) (Rr : Int × sd_M) (h : f_X9_out p1 M = some Rr) : sd_B X d sd_q_X9_out 0 [(0, .inr (.inr (some (0)))), (1, .inl (p1))] [] M (some (.inl Rr.1), sd_rp Rr.2, 0, 0) := by
  unfold f_X9_out at h
  refine sd_b_go 1 (pc2 := 1) (lv2 := [(0, .inr (.inr (some (0)))), (1, .inl (p1))]) (st2 := [.inl (p1)]) rfl ?_
  by_cases c1 : p1 < 0
  · rw [if_pos c1] at h
    refine sd_b_zt (c := .lt) (tgt := 33) rfl (decide_eq_true c1) (by decide) ?_
    refine sd_b_go 1 (pc2 := 34) (lv2 := [(0, .inr (.inr (some (0)))), (1, .inl (p1))]) (st2 := [.inl ((-1))]) rfl ?_
    cases h
    exact sd_b_rt rfl rfl rfl
  · rw [if_neg c1] at h
    refine sd_b_zf (c := .lt) rfl (decide_eq_false c1) (by decide) ?_
    refine sd_b_go 2 (pc2 := 6) (lv2 := [(0, .inr (.inr (some (0)))), (1, .inl (p1))]) (st2 := [.inr (.inr (some (0))), .inl (p1)]) rfl ?_
    refine sd_b_gr (k := 5) sd_o_0 rfl rfl rfl ?_
    refine sd_b_gr (k := 1) sd_o_58 rfl rfl rfl ?_
    refine sd_b_gi (k := 4) sd_o_66 rfl rfl rfl ?_
    by_cases c2 : (M 66 4) ≤ p1
    · rw [if_pos c2] at h
      refine sd_b_ct (c := .ge) (tgt := 33) rfl (decide_eq_true c2) (by decide) ?_
      refine sd_b_go 1 (pc2 := 34) (lv2 := [(0, .inr (.inr (some (0)))), (1, .inl (p1))]) (st2 := [.inl ((-1))]) rfl ?_
      cases h
      exact sd_b_rt rfl rfl rfl
    · rw [if_neg c2] at h
      refine sd_b_cf (c := .ge) rfl (decide_eq_false c2) (by decide) ?_
      refine sd_b_go 1 (pc2 := 19) (lv2 := [(0, .inr (.inr (some (0)))), (1, .inl (p1))]) (st2 := [.inr (.inr (some (0)))]) rfl ?_
      refine sd_b_gr (k := 5) sd_o_0 rfl rfl rfl ?_
      refine sd_b_gr (k := 1) sd_o_58 rfl rfl rfl ?_
      refine sd_b_gr (k := 11) sd_o_66 rfl rfl rfl ?_
      refine sd_b_go 1 (pc2 := 29) (lv2 := [(0, .inr (.inr (some (0)))), (1, .inl (p1))]) (st2 := [.inl (p1), .inr (.inr (some (73)))]) rfl ?_
      obtain ⟨g3, h⟩ := sd_if h
      refine sd_b_ai (sd_oa sd_o_66 (by decide) (off := 7) (List.mem_of_getElem? (i := 6) rfl)) g3 rfl ?_
      refine sd_b_go 1 (pc2 := 34) (lv2 := [(0, .inr (.inr (some (0)))), (1, .inl (p1))]) (st2 := [.inl (M 73 p1.toNat)]) rfl ?_
      cases h
      exact sd_b_rt rfl rfl rfl
theorem m_X9_out {X : Nat → List sd_V → List sd_E → sd_A → Prop} {d : Nat} (hd : 1 ≤ d) {p1 : Int} {M : sd_M} {Rr : Int × sd_M} (h : f_X9_out p1 M = some Rr) : sd_Cal X d 81 [.inr (.inr (some (0))), .inl (p1)] (sd_rp M) (some (.inl Rr.1), sd_rp Rr.2, 0, 0) := by
  obtain ⟨d, rfl⟩ : ∃ d2, d = d2 + 1 := ⟨d - 1, by omega⟩
  exact sd_cal_of sd_i_X9_out (Nat.le_of_ble_eq_true rfl) (t_X9_out (by omega) p1 M Rr h)
-- X9_count
def sd_q_X9_count : sd_MI := (yX9_count, cX9_count, 3, (some .int), 9, 1, sd_t_X9_count)
set_option maxRecDepth 4000 in
theorem sd_i_X9_count : sd_mL[82]? = some sd_q_X9_count := rfl
def f_X9_count (p1 : Int) (M : sd_M) : Option (Int × sd_M) := if p1 = 0 then (some (M 66 0, M)) else (if p1 = 1 then (some (M 59 2, M)) else (if p1 = 2 then (some (M 0 4, M)) else (if p1 = 3 then (some (M 58 3, M)) else (if p1 = 4 then (some (M 66 1, M)) else (if p1 = 5 then ((f_X0_bitsWhere 66 0 (M 59 2) M).bind fun r7 => some (r7.1, r7.2)) else (if p1 = 6 then ((f_X0_lineBits 66 M).bind fun r9 => some (r9.1, r9.2)) else (if p1 = 7 then (some (M 66 2, M)) else (if p1 = 8 then ((f_X0_lacking 66 M).bind fun r12 => some (r12.1, r12.2)) else (if p1 = 9 then ((f_X0_lineBits 66 M).bind fun r14 => (f_X0_signedOf 66 r14.1 r14.2).bind fun r15 => some (r15.1, r15.2)) else (if p1 = 10 then (some (M 66 4, M)) else (if p1 = 11 then (some (M 74 0, M)) else (if p1 = 12 then (some (M 0 9, M)) else (if p1 = 13 then (some (M 58 4, M)) else (if p1 = 14 then (some (M 1 1, M)) else (some ((-1), M))))))))))))))))
set_option maxRecDepth 4000 in
theorem t_X9_count {X : Nat → List sd_V → List sd_E → sd_A → Prop} {d : Nat} (hd : 2 ≤ d) (p1 : Int) (M : sd_M) (Rr : Int × sd_M) (h : f_X9_count p1 M = some Rr) : sd_B X d sd_q_X9_count 0 [(0, .inr (.inr (some (0)))), (1, .inl (p1))] [] M (some (.inl Rr.1), sd_rp Rr.2, 0, 0) := by
  unfold f_X9_count at h
  refine sd_b_go 1 (pc2 := 1) (lv2 := [(0, .inr (.inr (some (0)))), (1, .inl (p1))]) (st2 := [.inr (.inr (some (0)))]) rfl ?_
  refine sd_b_gr (k := 5) sd_o_0 rfl rfl rfl ?_
  refine sd_b_gr (k := 1) sd_o_58 rfl rfl rfl ?_
  refine sd_b_go 2 (pc2 := 9) (lv2 := [(2, .inr (.inr (some (66)))), (0, .inr (.inr (some (0)))), (1, .inl (p1))]) (st2 := [.inl (p1)]) rfl ?_
  by_cases c1 : p1 = 0
  · rw [if_pos c1] at h
    refine sd_b_eq c1 ?_
    refine sd_b_go 1 (pc2 := 84) (lv2 := [(2, .inr (.inr (some (66)))), (0, .inr (.inr (some (0)))), (1, .inl (p1))]) (st2 := []) rfl ?_
    refine sd_b_go 1 (pc2 := 85) (lv2 := [(2, .inr (.inr (some (66)))), (0, .inr (.inr (some (0)))), (1, .inl (p1))]) (st2 := [.inr (.inr (some (66)))]) rfl ?_
    refine sd_b_gi (k := 0) sd_o_66 rfl rfl rfl ?_
    cases h
    exact sd_b_rt rfl rfl rfl
  · rw [if_neg c1] at h
    by_cases c2 : p1 = 1
    · rw [if_pos c2] at h
      refine sd_b_eq c2 ?_
      refine sd_b_go 1 (pc2 := 89) (lv2 := [(2, .inr (.inr (some (66)))), (0, .inr (.inr (some (0)))), (1, .inl (p1))]) (st2 := []) rfl ?_
      refine sd_b_go 1 (pc2 := 90) (lv2 := [(2, .inr (.inr (some (66)))), (0, .inr (.inr (some (0)))), (1, .inl (p1))]) (st2 := [.inr (.inr (some (0)))]) rfl ?_
      refine sd_b_gr (k := 5) sd_o_0 rfl rfl rfl ?_
      refine sd_b_gr (k := 0) sd_o_58 rfl rfl rfl ?_
      refine sd_b_gi (k := 2) sd_o_59 rfl rfl rfl ?_
      cases h
      exact sd_b_rt rfl rfl rfl
    · rw [if_neg c2] at h
      by_cases c3 : p1 = 2
      · rw [if_pos c3] at h
        refine sd_b_eq c3 ?_
        refine sd_b_go 1 (pc2 := 100) (lv2 := [(2, .inr (.inr (some (66)))), (0, .inr (.inr (some (0)))), (1, .inl (p1))]) (st2 := []) rfl ?_
        refine sd_b_go 1 (pc2 := 101) (lv2 := [(2, .inr (.inr (some (66)))), (0, .inr (.inr (some (0)))), (1, .inl (p1))]) (st2 := [.inr (.inr (some (0)))]) rfl ?_
        refine sd_b_gi (k := 4) sd_o_0 rfl rfl rfl ?_
        cases h
        exact sd_b_rt rfl rfl rfl
      · rw [if_neg c3] at h
        by_cases c4 : p1 = 3
        · rw [if_pos c4] at h
          refine sd_b_eq c4 ?_
          refine sd_b_go 1 (pc2 := 105) (lv2 := [(2, .inr (.inr (some (66)))), (0, .inr (.inr (some (0)))), (1, .inl (p1))]) (st2 := []) rfl ?_
          refine sd_b_go 1 (pc2 := 106) (lv2 := [(2, .inr (.inr (some (66)))), (0, .inr (.inr (some (0)))), (1, .inl (p1))]) (st2 := [.inr (.inr (some (0)))]) rfl ?_
          refine sd_b_gr (k := 5) sd_o_0 rfl rfl rfl ?_
          refine sd_b_gi (k := 3) sd_o_58 rfl rfl rfl ?_
          cases h
          exact sd_b_rt rfl rfl rfl
        · rw [if_neg c4] at h
          by_cases c5 : p1 = 4
          · rw [if_pos c5] at h
            refine sd_b_eq c5 ?_
            refine sd_b_go 1 (pc2 := 113) (lv2 := [(2, .inr (.inr (some (66)))), (0, .inr (.inr (some (0)))), (1, .inl (p1))]) (st2 := []) rfl ?_
            refine sd_b_go 1 (pc2 := 114) (lv2 := [(2, .inr (.inr (some (66)))), (0, .inr (.inr (some (0)))), (1, .inl (p1))]) (st2 := [.inr (.inr (some (66)))]) rfl ?_
            refine sd_b_gi (k := 1) sd_o_66 rfl rfl rfl ?_
            cases h
            exact sd_b_rt rfl rfl rfl
          · rw [if_neg c5] at h
            by_cases c6 : p1 = 5
            · rw [if_pos c6] at h
              refine sd_b_eq c6 ?_
              refine sd_b_go 1 (pc2 := 118) (lv2 := [(2, .inr (.inr (some (66)))), (0, .inr (.inr (some (0)))), (1, .inl (p1))]) (st2 := []) rfl ?_
              refine sd_b_go 3 (pc2 := 121) (lv2 := [(2, .inr (.inr (some (66)))), (0, .inr (.inr (some (0)))), (1, .inl (p1))]) (st2 := [.inr (.inr (some (0))), .inl (0), .inr (.inr (some (66)))]) rfl ?_
              refine sd_b_gr (k := 5) sd_o_0 rfl rfl rfl ?_
              refine sd_b_gr (k := 0) sd_o_58 rfl rfl rfl ?_
              refine sd_b_gi (k := 2) sd_o_59 rfl rfl rfl ?_
              obtain ⟨r7, e7, h⟩ := sd_bnd h
              refine sd_b_call [.inr (.inr (some (66))), .inl (0), .inl (M 59 2)] [] rfl rfl sd_i_X0_bitsWhere rfl rfl (Nat.le_of_ble_eq_true rfl) (sd_rc_v sd_o_66) (m_X0_bitsWhere (by omega) sd_o_66 e7) ?_
              cases h
              exact sd_b_rt rfl rfl rfl
            · rw [if_neg c6] at h
              by_cases c8 : p1 = 6
              · rw [if_pos c8] at h
                refine sd_b_eq c8 ?_
                refine sd_b_go 1 (pc2 := 134) (lv2 := [(2, .inr (.inr (some (66)))), (0, .inr (.inr (some (0)))), (1, .inl (p1))]) (st2 := []) rfl ?_
                refine sd_b_go 1 (pc2 := 135) (lv2 := [(2, .inr (.inr (some (66)))), (0, .inr (.inr (some (0)))), (1, .inl (p1))]) (st2 := [.inr (.inr (some (66)))]) rfl ?_
                obtain ⟨r9, e9, h⟩ := sd_bnd h
                refine sd_b_call [.inr (.inr (some (66)))] [] rfl rfl sd_i_X0_lineBits rfl rfl (Nat.le_of_ble_eq_true rfl) (sd_rc_v sd_o_66) (m_X0_lineBits (by omega) sd_o_66 e9) ?_
                cases h
                exact sd_b_rt rfl rfl rfl
              · rw [if_neg c8] at h
                by_cases c10 : p1 = 7
                · rw [if_pos c10] at h
                  refine sd_b_eq c10 ?_
                  refine sd_b_go 1 (pc2 := 139) (lv2 := [(2, .inr (.inr (some (66)))), (0, .inr (.inr (some (0)))), (1, .inl (p1))]) (st2 := []) rfl ?_
                  refine sd_b_go 1 (pc2 := 140) (lv2 := [(2, .inr (.inr (some (66)))), (0, .inr (.inr (some (0)))), (1, .inl (p1))]) (st2 := [.inr (.inr (some (66)))]) rfl ?_
                  refine sd_b_gi (k := 2) sd_o_66 rfl rfl rfl ?_
                  cases h
                  exact sd_b_rt rfl rfl rfl
                · rw [if_neg c10] at h
                  by_cases c11 : p1 = 8
                  · rw [if_pos c11] at h
                    refine sd_b_eq c11 ?_
                    refine sd_b_go 1 (pc2 := 144) (lv2 := [(2, .inr (.inr (some (66)))), (0, .inr (.inr (some (0)))), (1, .inl (p1))]) (st2 := []) rfl ?_
                    refine sd_b_go 1 (pc2 := 145) (lv2 := [(2, .inr (.inr (some (66)))), (0, .inr (.inr (some (0)))), (1, .inl (p1))]) (st2 := [.inr (.inr (some (66)))]) rfl ?_
                    obtain ⟨r12, e12, h⟩ := sd_bnd h
                    refine sd_b_call [.inr (.inr (some (66)))] [] rfl rfl sd_i_X0_lacking rfl rfl (Nat.le_of_ble_eq_true rfl) (sd_rc_v sd_o_66) (m_X0_lacking (by omega) sd_o_66 e12) ?_
                    cases h
                    exact sd_b_rt rfl rfl rfl
                  · rw [if_neg c11] at h
                    by_cases c13 : p1 = 9
                    · rw [if_pos c13] at h
                      refine sd_b_eq c13 ?_
                      refine sd_b_go 1 (pc2 := 149) (lv2 := [(2, .inr (.inr (some (66)))), (0, .inr (.inr (some (0)))), (1, .inl (p1))]) (st2 := []) rfl ?_
                      refine sd_b_go 2 (pc2 := 151) (lv2 := [(2, .inr (.inr (some (66)))), (0, .inr (.inr (some (0)))), (1, .inl (p1))]) (st2 := [.inr (.inr (some (66))), .inr (.inr (some (66)))]) rfl ?_
                      obtain ⟨r14, e14, h⟩ := sd_bnd h
                      refine sd_b_call [.inr (.inr (some (66)))] [.inr (.inr (some (66)))] rfl rfl sd_i_X0_lineBits rfl rfl (Nat.le_of_ble_eq_true rfl) (sd_rc_v sd_o_66) (m_X0_lineBits (by omega) sd_o_66 e14) ?_
                      obtain ⟨r15, e15, h⟩ := sd_bnd h
                      refine sd_b_call [.inr (.inr (some (66))), .inl (r14.1)] [] rfl rfl sd_i_X0_signedOf rfl rfl (Nat.le_of_ble_eq_true rfl) (sd_rc_v sd_o_66) (m_X0_signedOf (by omega) sd_o_66 e15) ?_
                      cases h
                      exact sd_b_rt rfl rfl rfl
                    · rw [if_neg c13] at h
                      by_cases c16 : p1 = 10
                      · rw [if_pos c16] at h
                        refine sd_b_eq c16 ?_
                        refine sd_b_go 1 (pc2 := 158) (lv2 := [(2, .inr (.inr (some (66)))), (0, .inr (.inr (some (0)))), (1, .inl (p1))]) (st2 := []) rfl ?_
                        refine sd_b_go 1 (pc2 := 159) (lv2 := [(2, .inr (.inr (some (66)))), (0, .inr (.inr (some (0)))), (1, .inl (p1))]) (st2 := [.inr (.inr (some (66)))]) rfl ?_
                        refine sd_b_gi (k := 4) sd_o_66 rfl rfl rfl ?_
                        cases h
                        exact sd_b_rt rfl rfl rfl
                      · rw [if_neg c16] at h
                        by_cases c17 : p1 = 11
                        · rw [if_pos c17] at h
                          refine sd_b_eq c17 ?_
                          refine sd_b_go 1 (pc2 := 163) (lv2 := [(2, .inr (.inr (some (66)))), (0, .inr (.inr (some (0)))), (1, .inl (p1))]) (st2 := []) rfl ?_
                          refine sd_b_go 1 (pc2 := 164) (lv2 := [(2, .inr (.inr (some (66)))), (0, .inr (.inr (some (0)))), (1, .inl (p1))]) (st2 := [.inr (.inr (some (0)))]) rfl ?_
                          refine sd_b_gr (k := 5) sd_o_0 rfl rfl rfl ?_
                          refine sd_b_gr (k := 2) sd_o_58 rfl rfl rfl ?_
                          refine sd_b_gi (k := 0) sd_o_74 rfl rfl rfl ?_
                          cases h
                          exact sd_b_rt rfl rfl rfl
                        · rw [if_neg c17] at h
                          by_cases c18 : p1 = 12
                          · rw [if_pos c18] at h
                            refine sd_b_eq c18 ?_
                            refine sd_b_go 1 (pc2 := 174) (lv2 := [(2, .inr (.inr (some (66)))), (0, .inr (.inr (some (0)))), (1, .inl (p1))]) (st2 := []) rfl ?_
                            refine sd_b_go 1 (pc2 := 175) (lv2 := [(2, .inr (.inr (some (66)))), (0, .inr (.inr (some (0)))), (1, .inl (p1))]) (st2 := [.inr (.inr (some (0)))]) rfl ?_
                            refine sd_b_gi (k := 9) sd_o_0 rfl rfl rfl ?_
                            cases h
                            exact sd_b_rt rfl rfl rfl
                          · rw [if_neg c18] at h
                            by_cases c19 : p1 = 13
                            · rw [if_pos c19] at h
                              refine sd_b_eq c19 ?_
                              refine sd_b_go 1 (pc2 := 179) (lv2 := [(2, .inr (.inr (some (66)))), (0, .inr (.inr (some (0)))), (1, .inl (p1))]) (st2 := []) rfl ?_
                              refine sd_b_go 1 (pc2 := 180) (lv2 := [(2, .inr (.inr (some (66)))), (0, .inr (.inr (some (0)))), (1, .inl (p1))]) (st2 := [.inr (.inr (some (0)))]) rfl ?_
                              refine sd_b_gr (k := 5) sd_o_0 rfl rfl rfl ?_
                              refine sd_b_gi (k := 4) sd_o_58 rfl rfl rfl ?_
                              cases h
                              exact sd_b_rt rfl rfl rfl
                            · rw [if_neg c19] at h
                              by_cases c20 : p1 = 14
                              · rw [if_pos c20] at h
                                refine sd_b_eq c20 ?_
                                refine sd_b_go 1 (pc2 := 187) (lv2 := [(2, .inr (.inr (some (66)))), (0, .inr (.inr (some (0)))), (1, .inl (p1))]) (st2 := []) rfl ?_
                                refine sd_b_go 1 (pc2 := 188) (lv2 := [(2, .inr (.inr (some (66)))), (0, .inr (.inr (some (0)))), (1, .inl (p1))]) (st2 := [.inr (.inr (some (0)))]) rfl ?_
                                refine sd_b_gr (k := 0) sd_o_0 rfl rfl rfl ?_
                                refine sd_b_gi (k := 1) sd_o_1 rfl rfl rfl ?_
                                cases h
                                exact sd_b_rt rfl rfl rfl
                              · rw [if_neg c20] at h
                                refine sd_b_td (tgt := 195) rfl (by omega) (by decide) ?_
                                refine sd_b_go 1 (pc2 := 196) (lv2 := [(2, .inr (.inr (some (66)))), (0, .inr (.inr (some (0)))), (1, .inl (p1))]) (st2 := [.inl ((-1))]) rfl ?_
                                cases h
                                exact sd_b_rt rfl rfl rfl
theorem m_X9_count {X : Nat → List sd_V → List sd_E → sd_A → Prop} {d : Nat} (hd : 3 ≤ d) {p1 : Int} {M : sd_M} {Rr : Int × sd_M} (h : f_X9_count p1 M = some Rr) : sd_Cal X d 82 [.inr (.inr (some (0))), .inl (p1)] (sd_rp M) (some (.inl Rr.1), sd_rp Rr.2, 0, 0) := by
  obtain ⟨d, rfl⟩ : ∃ d2, d = d2 + 1 := ⟨d - 1, by omega⟩
  exact sd_cal_of sd_i_X9_count (Nat.le_of_ble_eq_true rfl) (t_X9_count (by omega) p1 M Rr h)
-- X9_undo
def sd_q_X9_undo : sd_MI := (yX9_undo, cX9_undo, 1, (some .int), 9, 0, sd_t_X9_undo)
set_option maxRecDepth 4000 in
theorem sd_i_X9_undo : sd_mL[88]? = some sd_q_X9_undo := rfl
def f_X9_undo_39 (s0 : Int) (M : sd_M) : Option (Int × sd_M) := if 0 ≤ (sd_s M 0 10 s0 0 10) ∧ (sd_s M 0 10 s0 0 10) < 20 then ((f_X0_copyFrom 66 (156 + 8 * (sd_s M 0 10 s0 0 10).toNat) (sd_s M 0 10 s0)).bind fun r2 => some (r2.2 0 9, r2.2)) else none
set_option maxRecDepth 4000 in
theorem t_X9_undo_39 {X : Nat → List sd_V → List sd_E → sd_A → Prop} {d : Nat} (hd : 1 ≤ d) (s0 : Int) (M : sd_M) (Rr : Int × sd_M) (h : f_X9_undo_39 s0 M = some Rr) : sd_B X d sd_q_X9_undo 39 [(0, .inr (.inr (some (0))))] [.inl (s0), .inr (.inr (some (0)))] M (some (.inl Rr.1), sd_rp Rr.2, 0, 0) := by
  unfold f_X9_undo_39 at h
  refine sd_b_pi (k := 10) sd_o_0 rfl rfl rfl rfl rfl ?_
  refine sd_b_go 1 (pc2 := 43) (lv2 := [(0, .inr (.inr (some (0))))]) (st2 := [.inr (.inr (some (0)))]) rfl ?_
  refine sd_b_gr (k := 5) sd_o_0 rfl rfl rfl ?_
  refine sd_b_gr (k := 1) sd_o_58 rfl rfl rfl ?_
  refine sd_b_go 1 (pc2 := 50) (lv2 := [(0, .inr (.inr (some (0))))]) (st2 := [.inr (.inr (some (0))), .inr (.inr (some (66)))]) rfl ?_
  refine sd_b_gr (k := 8) sd_o_0 rfl rfl rfl ?_
  refine sd_b_go 1 (pc2 := 54) (lv2 := [(0, .inr (.inr (some (0))))]) (st2 := [.inr (.inr (some (0))), .inr (.inr (some (155))), .inr (.inr (some (66)))]) rfl ?_
  refine sd_b_gi (k := 10) sd_o_0 rfl rfl rfl ?_
  obtain ⟨g1, h⟩ := sd_if h
  refine sd_b_ar sd_ra_155 g1 rfl ?_
  obtain ⟨r2, e2, h⟩ := sd_bnd h
  refine sd_b_call [.inr (.inr (some (66))), .inr (.inr (some (156 + 8 * (sd_s M 0 10 s0 0 10).toNat)))] [] rfl rfl sd_i_X0_copyFrom rfl rfl (Nat.le_of_ble_eq_true rfl) (sd_rc_v sd_o_66) (m_X0_copyFrom (by omega) sd_o_66 (sd_re_155 _ (by omega)) e2) ?_
  refine sd_b_go 1 (pc2 := 62) (lv2 := [(0, .inr (.inr (some (0))))]) (st2 := [.inr (.inr (some (0)))]) rfl ?_
  refine sd_b_gi (k := 9) sd_o_0 rfl rfl rfl ?_
  cases h
  exact sd_b_rt rfl rfl rfl
def f_X9_undo (M : sd_M) : Option (Int × sd_M) := if 1 ≤ (M 0 9) then (if (sd_s M 0 9 (sd_w ((M 0 9) - 1)) 0 10) ≤ 0 then (f_X9_undo_39 19 (sd_s M 0 9 (sd_w ((M 0 9) - 1)))) else (f_X9_undo_39 (sd_w ((sd_s M 0 9 (sd_w ((M 0 9) - 1)) 0 10) - 1)) (sd_s M 0 9 (sd_w ((M 0 9) - 1))))) else (some ((-1), M))
set_option maxRecDepth 4000 in
theorem t_X9_undo {X : Nat → List sd_V → List sd_E → sd_A → Prop} {d : Nat} (hd : 1 ≤ d) (M : sd_M) (Rr : Int × sd_M) (h : f_X9_undo M = some Rr) : sd_B X d sd_q_X9_undo 0 [(0, .inr (.inr (some (0))))] [] M (some (.inl Rr.1), sd_rp Rr.2, 0, 0) := by
  unfold f_X9_undo at h
  refine sd_b_go 1 (pc2 := 1) (lv2 := [(0, .inr (.inr (some (0))))]) (st2 := [.inr (.inr (some (0)))]) rfl ?_
  refine sd_b_gi (k := 9) sd_o_0 rfl rfl rfl ?_
  refine sd_b_go 1 (pc2 := 5) (lv2 := [(0, .inr (.inr (some (0))))]) (st2 := [.inl (1), .inl (M 0 9)]) rfl ?_
  by_cases c1 : 1 ≤ (M 0 9)
  · rw [if_pos c1] at h
    refine sd_b_ct (c := .ge) (tgt := 10) rfl (decide_eq_true c1) (by decide) ?_
    refine sd_b_go 2 (pc2 := 12) (lv2 := [(0, .inr (.inr (some (0))))]) (st2 := [.inr (.inr (some (0))), .inr (.inr (some (0)))]) rfl ?_
    refine sd_b_gi (k := 9) sd_o_0 rfl rfl rfl ?_
    refine sd_b_go 2 (pc2 := 17) (lv2 := [(0, .inr (.inr (some (0))))]) (st2 := [.inl (sd_w ((M 0 9) - 1)), .inr (.inr (some (0)))]) rfl ?_
    refine sd_b_pi (k := 9) sd_o_0 rfl rfl rfl rfl rfl ?_
    refine sd_b_go 2 (pc2 := 22) (lv2 := [(0, .inr (.inr (some (0))))]) (st2 := [.inr (.inr (some (0))), .inr (.inr (some (0)))]) rfl ?_
    refine sd_b_gi (k := 10) sd_o_0 rfl rfl rfl ?_
    by_cases c2 : (sd_s M 0 9 (sd_w ((M 0 9) - 1)) 0 10) ≤ 0
    · rw [if_pos c2] at h
      refine sd_b_zt (c := .le) (tgt := 37) rfl (decide_eq_true c2) (by decide) ?_
      refine sd_b_go 1 (pc2 := 39) (lv2 := [(0, .inr (.inr (some (0))))]) (st2 := [.inl (19), .inr (.inr (some (0)))]) rfl ?_
      refine sd_b_wk [(0, .inr (.inr (some (0))))] (List.forall_mem_cons.mpr ⟨rfl, (fun _ h0 => absurd h0 List.not_mem_nil)⟩) ?_
      exact t_X9_undo_39 hd 19 (sd_s M 0 9 (sd_w ((M 0 9) - 1))) _ h
    · rw [if_neg c2] at h
      refine sd_b_zf (c := .le) rfl (decide_eq_false c2) (by decide) ?_
      refine sd_b_go 1 (pc2 := 29) (lv2 := [(0, .inr (.inr (some (0))))]) (st2 := [.inr (.inr (some (0))), .inr (.inr (some (0)))]) rfl ?_
      refine sd_b_gi (k := 10) sd_o_0 rfl rfl rfl ?_
      refine sd_b_go 3 (pc2 := 39) (lv2 := [(0, .inr (.inr (some (0))))]) (st2 := [.inl (sd_w ((sd_s M 0 9 (sd_w ((M 0 9) - 1)) 0 10) - 1)), .inr (.inr (some (0)))]) rfl ?_
      refine sd_b_wk [(0, .inr (.inr (some (0))))] (List.forall_mem_cons.mpr ⟨rfl, (fun _ h0 => absurd h0 List.not_mem_nil)⟩) ?_
      exact t_X9_undo_39 hd (sd_w ((sd_s M 0 9 (sd_w ((M 0 9) - 1)) 0 10) - 1)) (sd_s M 0 9 (sd_w ((M 0 9) - 1))) _ h
  · rw [if_neg c1] at h
    refine sd_b_cf (c := .ge) rfl (decide_eq_false c1) (by decide) ?_
    refine sd_b_go 1 (pc2 := 9) (lv2 := [(0, .inr (.inr (some (0))))]) (st2 := [.inl ((-1))]) rfl ?_
    cases h
    exact sd_b_rt rfl rfl rfl
theorem m_X9_undo {X : Nat → List sd_V → List sd_E → sd_A → Prop} {d : Nat} (hd : 2 ≤ d) {M : sd_M} {Rr : Int × sd_M} (h : f_X9_undo M = some Rr) : sd_Cal X d 88 [.inr (.inr (some (0)))] (sd_rp M) (some (.inl Rr.1), sd_rp Rr.2, 0, 0) := by
  obtain ⟨d, rfl⟩ : ∃ d2, d = d2 + 1 := ⟨d - 1, by omega⟩
  exact sd_cal_of sd_i_X9_undo (Nat.le_of_ble_eq_true rfl) (t_X9_undo (by omega) M Rr h)
