/-! a clause of a slip, in the reference -/
theorem ms_b01 {o : Option (Int × sd_M)} {Q : Int → sd_M → Prop} (h : ms_T o Q) (hq : ∀ r N, Q r N → r = 0 ∨ r = 1) : ms_T (o.bind fun r1 => if r1.1 = 0 ∨ r1.1 = 1 then some (r1.1, r1.2) else none) Q := by
  obtain ⟨r, N, rfl, q⟩ := h
  refine ⟨r, N, ?_, q⟩
  rw [Option.bind_some]
  exact if_pos (hq r N q)
def tx_r7 (M N : sd_M) : Prop := (∀ a, a ≠ 331 → a ≠ 337 → N a = M a) ∧ ∀ j, j ≠ 8 → j ≠ 9 → j ≠ 10 → N 331 j = M 331 j
theorem tx_r7_rf {M N : sd_M} (h : tx_rf M N) : tx_r7 M N := ⟨fun a x _ => h.1 a x, h.2⟩
theorem tx_r7_tr {M N K : sd_M} (h : tx_r7 M N) (g : tx_r7 N K) : tx_r7 M K := ⟨fun a x y => (g.1 a x y).trans (h.1 a x y), fun j x y z => (g.2 j x y z).trans (h.2 j x y z)⟩
theorem tx_r7_s {M : sd_M} {i : Nat} {v : Int} : tx_r7 M (sd_s M 337 i v) := ⟨fun a _ y => sd_s_a y, fun j _ _ _ => by rw [sd_s_a (by omega)]⟩
theorem tx_nx_w {B : Nat → Int} {n p : Nat} (hp : p ≤ n) (hbb : ∀ j, j < n → -128 ≤ B j ∧ B j < 128) (k : 600 ≤ tx_kd B n p) : p < n ∧ tx_nx B n p = tx_s B n (p + tx_l B n p) := by
  unfold tx_kd at k
  by_cases c1 : n ≤ p
  · rw [if_pos c1] at k
    omega
  rw [if_neg c1] at k
  by_cases c2 : 0 < tx_d B n p
  · rw [if_pos c2] at k
    omega
  rw [if_neg c2] at k
  by_cases c3 : 0 < tx_l B n p
  · refine ⟨by omega, ?_⟩
    unfold tx_nx tx_len
    rw [if_neg c1, if_neg c2, if_pos c3]
  · rw [if_neg c3] at k
    exfalso
    have u := tx_ub_c (B p)
    have ub := hbb p (by omega)
    split at k <;> omega
theorem sl_cell {K : sd_M} {B : Nat → Int} {n p cell : Nat} {z : Int} (h : tx_rs K B n p) (h9 : K 331 9 = 0) {lo hi : Int} (hlo : 0 ≤ lo) (hz : z = (cell : Int)) (hc : cell < 58) : ms_T (f_X10_cellHere z lo hi K) (fun r N => tx_r7 K N ∧ (tx_ok B n p lo hi → r = 1 ∧ N 331 9 = 0 ∧ N 337 = ms_u (K 337) cell (tx_vl B n p) ∧ tx_rs N B n (tx_nx B n p)) ∧ (¬ tx_ok B n p lo hi → r = 0 ∧ N 331 9 = tx_nf B n p)) := by
  unfold f_X10_cellHere
  refine ms_t_b (tx_numberHere h h9 lo hi hlo) (fun r N q => ?_)
  obtain ⟨q1, q2, q3⟩ := q
  simp only []
  by_cases c : tx_ok B n p lo hi
  · obtain ⟨a1, a2, a3, a4⟩ := q2 c
    rw [a1, if_neg (by decide), hz, if_pos (by omega), Int.toNat_natCast]
    refine ms_t_r ⟨tx_r7_tr (tx_r7_rf q1) tx_r7_s, fun _ => ⟨rfl, ?_, ?_, ?_⟩, fun w => absurd c w⟩
    · rw [sd_s_a (by omega)]
      exact a2
    · rw [sd_s_row, q1.1 337 (by omega), a3]
    · exact tx_rs_c a4 (by rw [sd_s_a (by omega)]) (by rw [sd_s_a (by omega)]) (sd_s_a (by omega))
  · obtain ⟨a1, a2⟩ := q3 c
    rw [a1, if_pos (by trivial)]
    exact ms_t_r ⟨tx_r7_rf q1, fun w => absurd w c, fun _ => ⟨rfl, a2⟩⟩
/-- how a clause's reading ends -/
def sl_no (K : sd_M) (f : Int) (r : Int) (N : sd_M) : Prop := r = 0 ∧ N 331 9 = f ∧ tx_r7 K N
def sl_ok (K : sd_M) (B : Nat → Int) (n p : Nat) (R : Nat → Int) (r : Int) (N : sd_M) : Prop := r = 1 ∧ N 331 9 = 0 ∧ tx_rs N B n p ∧ N 337 = R ∧ tx_r7 K N
theorem sl_pass {K : sd_M} {B : Nat → Int} {n p : Nat} (h : tx_rs K B n p) (h8 : K 331 8 = (p : Int)) (k : 600 ≤ tx_kd B n p) : ∃ N, f_X10_passWord K = some (0, N) ∧ tx_rs N B n (tx_nx B n p) ∧ (∀ a, a ≠ 331 → N a = K a) ∧ ∀ j, j ≠ 8 → N 331 j = K 331 j := by
  have b := tx_rs_b h
  have w := tx_nx_w b.1 (fun j hj => (h.1.2.2 j hj).2) k
  have lb := tx_l_b (B := B) (n := n) (p := p)
  refine ⟨_, tx_passWord h.1 b.1 h8, ?_, fun a ha => sd_s_a ha, fun j hj => sd_s_j hj⟩
  rw [w.2]
  exact tx_rs_n h.1 (by omega)
theorem sl_r_s {K : sd_M} {B : Nat → Int} {n p : Nat} {R : Nat → Int} (h : tx_rs K B n p) (h8 : K 331 8 = (p : Int)) (h9 : K 331 9 = 0) (k : 600 ≤ tx_kd B n p) (hR : K 337 = R) (r0 : R 0 = 0) : sl_p (sl_s B n R (tx_nx B n p)) (fun f => ms_T (f_X10_isSlipHere (p : Int) K) (sl_no K f)) (fun p2 R2 => ms_T (f_X10_isSlipHere (p : Int) K) (sl_ok K B n p2 R2)) := by
  obtain ⟨N1, e1, s1, f1, g1⟩ := sl_pass h h8 k
  have fr1 : tx_r7 K N1 := ⟨fun a x _ => f1 a x, fun j x _ _ => g1 j x⟩
  have q := sl_cell (z := 1) (cell := 1) s1 (by rw [g1 9 (by omega), h9]) (lo := 1) (hi := 999) (by omega) rfl (by omega)
  obtain ⟨r, N2, e2, fr2, a2, a3⟩ := q
  rw [f1 337 (by omega), hR] at a2
  have e : f_X10_isSlipHere (p : Int) K = if r = 0 then some (0, N2) else some (1, sd_s N2 337 0 1) := by
    unfold f_X10_isSlipHere
    rw [hR, if_pos (by omega), e1, Option.bind_some]
    simp only []
    rw [e2, Option.bind_some]
  rw [e]
  unfold sl_s
  by_cases c : tx_ok B n (tx_nx B n p) 1 999
  · obtain ⟨b1, b2, b3, b4⟩ := a2 c
    rw [if_pos c, if_neg (show ¬ r = 0 by omega)]
    refine ms_t_r ⟨rfl, ?_, ?_, ?_, tx_r7_tr fr1 (tx_r7_tr fr2 tx_r7_s)⟩
    · rw [sd_s_a (by omega)]
      exact b2
    · exact tx_rs_c b4 (by rw [sd_s_a (by omega)]) (by rw [sd_s_a (by omega)]) (sd_s_a (by omega))
    · rw [sd_s_row, b3]
  · obtain ⟨b1, b2⟩ := a3 c
    rw [if_neg c, if_pos b1]
    exact ms_t_r ⟨rfl, b2, tx_r7_tr fr1 fr2⟩
theorem sl_r_o {K : sd_M} {B : Nat → Int} {n p : Nat} {R : Nat → Int} (h : tx_rs K B n p) (h8 : K 331 8 = (p : Int)) (h9 : K 331 9 = 0) (k : 600 ≤ tx_kd B n p) (hR : K 337 = R) (tl : ms_tl R) (r2 : R 2 < 9) : sl_p (sl_o B n R (tx_nx B n p)) (fun f => ms_T (f_X10_isOfferHere (p : Int) K) (sl_no K f)) (fun p2 R2 => ms_T (f_X10_isOfferHere (p : Int) K) (sl_ok K B n p2 R2)) := by
  have l2 := tl.2.1
  obtain ⟨m, hm⟩ : ∃ m : Nat, R 2 = m := ⟨(R 2).toNat, by omega⟩
  obtain ⟨N1, e1, s1, f1, g1⟩ := sl_pass h h8 k
  have fr1 : tx_r7 K N1 := ⟨fun a x _ => f1 a x, fun j x _ _ => g1 j x⟩
  have q := sl_cell (z := sd_w (4 + R 2)) (cell := 4 + m) s1 (by rw [g1 9 (by omega), h9]) (lo := 1) (hi := 999) (by omega) (by rw [sd_wid (by omega) (by omega)]; omega) (by omega)
  obtain ⟨r, N2, e2, fr2, a2, a3⟩ := q
  have h337 : N1 337 = R := by rw [f1 337 (by omega), hR]
  rw [h337] at a2
  have e : f_X10_isOfferHere (p : Int) K = if r = 0 then some (0, N2) else ((f_X10_cellHere (sd_w (13 + R 2)) 0 1 N2).bind fun r5 => if r5.1 = 0 then (some (0, r5.2)) else (some (1, sd_s r5.2 337 2 (sd_w ((r5.2 337 2) + 1))))) := by
    unfold f_X10_isOfferHere
    rw [hR, if_neg (by omega), e1, Option.bind_some]
    simp only []
    rw [h337, e2, Option.bind_some]
  rw [e]
  unfold sl_o
  rw [hm, Int.toNat_natCast]
  by_cases c : tx_ok B n (tx_nx B n p) 1 999
  · obtain ⟨b1, b2, b3, b4⟩ := a2 c
    rw [if_pos c, if_neg (show ¬ r = 0 by omega)]
    obtain ⟨s, N3, e3, fr3, d2, d3⟩ := sl_cell (z := sd_w (13 + (m : Int))) (cell := 13 + m) b4 b2 (lo := 0) (hi := 1) (by omega) (by rw [sd_wid (by omega) (by omega)]; omega) (by omega)
    rw [e3, Option.bind_some]
    simp only []
    by_cases c2 : tx_ok B n (tx_nx B n (tx_nx B n p)) 0 1
    · obtain ⟨b5, b6, b7, b8⟩ := d2 c2
      rw [if_pos c2, if_neg (show ¬ s = 0 by omega)]
      refine ms_t_r ⟨rfl, ?_, ?_, ?_, tx_r7_tr fr1 (tx_r7_tr fr2 (tx_r7_tr fr3 tx_r7_s))⟩
      · rw [sd_s_a (by omega)]
        exact b6
      · exact tx_rs_c b8 (by rw [sd_s_a (by omega)]) (by rw [sd_s_a (by omega)]) (sd_s_a (by omega))
      · rw [sd_s_row, b7, b3, ms_u_ne (show (2 : Nat) ≠ 13 + m by omega), ms_u_ne (show (2 : Nat) ≠ 4 + m by omega), hm, sd_wid (by omega) (by omega)]
    · obtain ⟨b5, b6⟩ := d3 c2
      rw [if_neg c2, if_pos b5]
      exact ms_t_r ⟨rfl, b6, tx_r7_tr fr1 (tx_r7_tr fr2 fr3)⟩
  · obtain ⟨b1, b2⟩ := a3 c
    rw [if_neg c, if_pos b1]
    exact ms_t_r ⟨rfl, b2, tx_r7_tr fr1 fr2⟩
theorem sl_r_n {K : sd_M} {B : Nat → Int} {n p : Nat} {R : Nat → Int} (h : tx_rs K B n p) (h8 : K 331 8 = (p : Int)) (h9 : K 331 9 = 0) (k : 600 ≤ tx_kd B n p) (hR : K 337 = R) (tl : ms_tl R) (r3 : R 3 < 12) : sl_p (sl_n B n R (tx_nx B n p)) (fun f => ms_T (f_X10_isNeedsHere (p : Int) K) (sl_no K f)) (fun p2 R2 => ms_T (f_X10_isNeedsHere (p : Int) K) (sl_ok K B n p2 R2)) := by
  have l2 := tl.2.1
  have l3 := tl.2.2.1
  obtain ⟨m, hm⟩ : ∃ m : Nat, R 3 = m := ⟨(R 3).toNat, by omega⟩
  obtain ⟨N1, e1, s1, f1, g1⟩ := sl_pass h h8 k
  have fr1 : tx_r7 K N1 := ⟨fun a x _ => f1 a x, fun j x _ _ => g1 j x⟩
  obtain ⟨z1, z2, z3⟩ : sd_w (22 + sd_w (3 * (m : Int))) = ((22 + 3 * m : Nat) : Int) ∧ sd_w (sd_w (22 + sd_w (3 * (m : Int))) + 1) = ((23 + 3 * m : Nat) : Int) ∧ sd_w (sd_w (22 + sd_w (3 * (m : Int))) + 2) = ((24 + 3 * m : Nat) : Int) := by
    rw [sd_wid (z := 3 * (m : Int)) (by omega) (by omega), sd_wid (z := 22 + 3 * (m : Int)) (by omega) (by omega), sd_wid (z := 22 + 3 * (m : Int) + 1) (by omega) (by omega), sd_wid (z := 22 + 3 * (m : Int) + 2) (by omega) (by omega)]
    omega
  have q := sl_cell (z := ((22 + 3 * m : Nat) : Int)) (cell := 22 + 3 * m) s1 (by rw [g1 9 (by omega), h9]) (lo := 0) (hi := R 2 - 1) (by omega) rfl (by omega)
  obtain ⟨r, N2, e2, fr2, a2, a3⟩ := q
  have h337 : N1 337 = R := by rw [f1 337 (by omega), hR]
  rw [h337] at a2
  have e : f_X10_isNeedsHere (p : Int) K = if r = 0 then some (0, N2) else ((f_X10_cellHere ((23 + 3 * m : Nat) : Int) 0 5 N2).bind fun r5 => if r5.1 = 0 then (some (0, r5.2)) else ((f_X10_cellHere ((24 + 3 * m : Nat) : Int) 0 999 r5.2).bind fun r7 => if r7.1 = 0 then (some (0, r7.2)) else (some (1, sd_s r7.2 337 3 (sd_w ((r7.2 337 3) + 1)))))) := by
    unfold f_X10_isNeedsHere
    rw [hR, if_neg (by omega), e1, Option.bind_some]
    simp only []
    rw [h337, hm, z3, z2, z1, sd_wid (z := R 2 - 1) (by omega) (by omega), e2, Option.bind_some]
  clear z1 z2 z3
  rw [e]
  unfold sl_n
  rw [hm, Int.toNat_natCast]
  by_cases c : tx_ok B n (tx_nx B n p) 0 (R 2 - 1)
  · obtain ⟨b1, b2, b3, b4⟩ := a2 c
    rw [if_pos c, if_neg (show ¬ r = 0 by omega)]
    obtain ⟨s, N3, e3, fr3, d2, d3⟩ := sl_cell (z := ((23 + 3 * m : Nat) : Int)) (cell := 23 + 3 * m) b4 b2 (lo := 0) (hi := 5) (by omega) rfl (by omega)
    rw [e3, Option.bind_some]
    simp only []
    by_cases c2 : tx_ok B n (tx_nx B n (tx_nx B n p)) 0 5
    · obtain ⟨b5, b6, b7, b8⟩ := d2 c2
      rw [if_pos c2, if_neg (show ¬ s = 0 by omega)]
      obtain ⟨s4, N4, e4, fr4, d4, d5⟩ := sl_cell (z := ((24 + 3 * m : Nat) : Int)) (cell := 24 + 3 * m) b8 b6 (lo := 0) (hi := 999) (by omega) rfl (by omega)
      rw [e4, Option.bind_some]
      simp only []
      by_cases c3 : tx_ok B n (tx_nx B n (tx_nx B n (tx_nx B n p))) 0 999
      · obtain ⟨b9, b10, b11, b12⟩ := d4 c3
        rw [if_pos c3, if_neg (show ¬ s4 = 0 by omega)]
        refine ms_t_r ⟨rfl, ?_, ?_, ?_, tx_r7_tr fr1 (tx_r7_tr fr2 (tx_r7_tr fr3 (tx_r7_tr fr4 tx_r7_s)))⟩
        · rw [sd_s_a (by omega)]
          exact b10
        · exact tx_rs_c b12 (by rw [sd_s_a (by omega)]) (by rw [sd_s_a (by omega)]) (sd_s_a (by omega))
        · rw [sd_s_row, b11, b7, b3, ms_u_ne (show (3 : Nat) ≠ 24 + 3 * m by omega), ms_u_ne (show (3 : Nat) ≠ 23 + 3 * m by omega), ms_u_ne (show (3 : Nat) ≠ 22 + 3 * m by omega), hm, sd_wid (by omega) (by omega)]
      · obtain ⟨b9, b10⟩ := d5 c3
        rw [if_neg c3, if_pos b9]
        exact ms_t_r ⟨rfl, b10, tx_r7_tr fr1 (tx_r7_tr fr2 (tx_r7_tr fr3 fr4))⟩
    · obtain ⟨b5, b6⟩ := d3 c2
      rw [if_neg c2, if_pos b5]
      exact ms_t_r ⟨rfl, b6, tx_r7_tr fr1 (tx_r7_tr fr2 fr3)⟩
  · obtain ⟨b1, b2⟩ := a3 c
    rw [if_neg c, if_pos b1]
    exact ms_t_r ⟨rfl, b2, tx_r7_tr fr1 fr2⟩
