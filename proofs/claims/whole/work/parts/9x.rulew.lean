/-! the reference's clause -/
def rl_T2 (x : Nat) (r10 : Int × sd_M) : Option (Int × sd_M) := if r10.1 = 0 then (f_X10_isTakeHere_110 (x : Int) r10.2) else (if 0 ≤ (r10.2 331 11) ∧ (r10.2 331 11) < 7 then ((f_X10_tested (sd_s r10.2 335 (x + 2) (r10.2 334 (r10.2 331 11).toNat))).bind fun r14 => if r14.1 = 0 then (some (0, r14.2)) else (f_X10_isTakeHere_110 (x : Int) r14.2)) else none)
def rl_T1 (x : Nat) (r5 : Int × sd_M) : Option (Int × sd_M) := if r5.1 = 0 then (some (0, r5.2)) else (if 0 ≤ (r5.2 331 11) ∧ (r5.2 331 11) < 7 then ((f_X10_takesWord 26982 (sd_s (sd_s r5.2 335 (x + 1) (r5.2 334 (r5.2 331 11).toNat)) 335 (x + 2) (-1))).bind (rl_T2 x)) else none)
theorem rl_take_e {K N : sd_M} {r c : Nat} (eN : f_X10_passWord K = some (0, N)) (n11 : N 331 11 = (r : Int)) (n336 : N 336 r = (c : Int)) (hr : r < 6) (hc : c < 12) : f_X10_isTakeHere K = (f_X10_sum (sd_s N 335 (48 * r + 4 * c) (N 334 r))).bind (rl_T1 (48 * r + 4 * c)) := by
  obtain ⟨x, hx⟩ : ∃ x : Nat, x = 48 * r + 4 * c := ⟨_, rfl⟩
  have e : sd_w (sd_w (48 * (r : Int)) + sd_w (4 * (c : Int))) = (x : Int) := by
    rw [sd_wid (z := 48 * (r : Int)) (by omega) (by omega), sd_wid (z := 4 * (c : Int)) (by omega) (by omega), sd_wid (by omega) (by omega)]
    omega
  have e1 : sd_w ((x : Int) + 1) = ((x + 1 : Nat) : Int) := by
    rw [sd_wid (by omega) (by omega)]
    rfl
  have e2 : sd_w ((x : Int) + 2) = ((x + 2 : Nat) : Int) := by
    rw [sd_wid (by omega) (by omega)]
    rfl
  have b0 : 0 ≤ (x : Int) ∧ (x : Int) < 288 := by
    clear e e1 e2
    omega
  have b1 : 0 ≤ ((x + 1 : Nat) : Int) ∧ ((x + 1 : Nat) : Int) < 288 := by
    clear e e1 e2
    omega
  have b2 : 0 ≤ ((x + 2 : Nat) : Int) ∧ ((x + 2 : Nat) : Int) < 288 := by
    clear e e1 e2
    omega
  unfold f_X10_isTakeHere
  rw [eN, Option.bind_some]
  simp only []
  rw [n11, Int.toNat_natCast, n336, e, e1, e2, Int.toNat_natCast, Int.toNat_natCast, Int.toNat_natCast, if_pos (by clear e e1 e2; omega), if_pos (by clear e e1 e2; omega), if_pos b0, ← hx]
  refine congrArg (Option.bind _) (funext fun r5 => ?_)
  unfold rl_T1
  rw [if_pos b1, if_pos b2]
  by_cases c1 : r5.1 = 0
  · rw [if_pos c1, if_pos c1]
  rw [if_neg c1, if_neg c1]
  by_cases c2 : 0 ≤ (r5.2 331 11) ∧ (r5.2 331 11) < 7
  · rw [if_pos c2, if_pos c2]
    refine congrArg (Option.bind _) (funext fun r10 => ?_)
    unfold rl_T2
    rw [if_pos b2]
  · rw [if_neg c2, if_neg c2]
/-- the clause is counted -/
theorem rl_t110 {B : Nat → Int} {n p r k a b : Nat} {D : List (Int × Int)} {Q : List (Nat × Nat × Nat)} {L : sd_M} (hr : r < 6) (hQ : Q.length < 12) (rs : tx_rs L B n p) (rr : rl_r L r D k) (l14 : L 331 14 = ((Q.length + 1 : Nat) : Int)) (l36 : L 336 r = (Q.length : Int)) (lo : ∀ i, i < Q.length → rl_x4 (L 335) (48 * r + 4 * i) (rq_g Q i)) (x0 : L 335 (48 * r + 4 * Q.length) = (a : Int)) (x1 : L 335 (48 * r + 4 * Q.length + 1) = (b : Int)) (x2 : L 335 (48 * r + 4 * Q.length + 2) = (if (b : Int) = (D.length : Int) then -1 else (b : Int))) : ∃ L2, f_X10_isTakeHere_110 ((48 * r + 4 * Q.length : Nat) : Int) L = some (1, L2) ∧ tx_rs L2 B n p ∧ rl_r L2 r D k ∧ rl_rq L2 r (Q ++ [(a, b, D.length)]) ∧ rl_q3 r L L2 := by
  obtain ⟨⟨r11, r12, r9⟩, r4, r3⟩ := id rr
  have l6 : sd_s L 335 (48 * r + 4 * Q.length + 3) (D.length : Int) 336 r = (Q.length : Int) := by rw [sd_s_a (by omega), l36]
  have l11 : sd_s L 335 (48 * r + 4 * Q.length + 3) (D.length : Int) 331 11 = (r : Int) := by rw [sd_s_a (by omega), r11]
  refine ⟨sd_s (sd_s L 335 (48 * r + 4 * Q.length + 3) (D.length : Int)) 336 r ((Q.length + 1 : Nat) : Int), ?_, tx_rs_c rs ?_ ?_ ?_, rl_r_c rr ?_ ?_ ?_ ?_ ?_, ⟨?_, ?_, fun i hi => ?_⟩, rl_q3_tr (rl_q3_5 (by omega)) rl_q3_6⟩
  · unfold f_X10_isTakeHere_110
    rw [sd_wid (by omega) (by omega), r11, Int.toNat_natCast, r4, show (((48 * r + 4 * Q.length : Nat) : Int) + 3).toNat = 48 * r + 4 * Q.length + 3 by omega, l11, Int.toNat_natCast, l6, sd_wid (by omega) (by omega), if_pos (by omega), if_pos (by omega), if_pos (by omega), if_pos (by omega)]
    rfl
  · rw [sd_s_a (by omega), sd_s_a (by omega)]
  · rw [sd_s_a (by omega), sd_s_a (by omega)]
  · rw [sd_s_a (by omega), sd_s_a (by omega)]
  · rw [sd_s_a (by omega), sd_s_a (by omega)]
  · rw [sd_s_a (by omega), sd_s_a (by omega), r12]
  · rw [sd_s_a (by omega), sd_s_a (by omega), r9]
  · rw [sd_s_a (by omega), sd_s_a (by omega)]
  · rw [sd_s_a (by omega), sd_s_a (by omega)]
  · rw [sd_s_a (by omega), sd_s_a (by omega), l14, List.length_append]
    rfl
  · rw [sd_s_at, List.length_append]
    rfl
  · rw [List.length_append] at hi
    have hi2 : i < Q.length + 1 := hi
    unfold rl_x4
    rw [sd_s_a (by omega)]
    by_cases c : i = Q.length
    · rw [c, rq_g_e]
      rw [sd_s_j (by omega), sd_s_j (by omega), sd_s_j (by omega), sd_s_at]
      exact ⟨x0, x1, x2, rfl⟩
    · rw [rq_g_l (by omega)]
      rw [sd_s_j (by omega), sd_s_j (by omega), sd_s_j (by omega), sd_s_j (by omega)]
      exact lo i (by omega)
/-- up to its sum -/
theorem rl_take1 {B : Nat → Int} {n p r k : Nat} {C : List (Int × Int)} {Q : List (Nat × Nat × Nat)} {K : sd_M} (hr : r < 6) (hQ : Q.length < 12) (rs : tx_rs K B n p) (rr : rl_r K r C k) (rq : rl_rq K r Q) (kd : tx_kd B n p = 612) : ∃ L, f_X10_clauseHere K = (((f_X10_sum L).bind (rl_T1 (48 * r + 4 * Q.length))).bind fun r3 => if r3.1 = 0 ∨ r3.1 = 1 then some (r3.1, r3.2) else none) ∧ tx_rs L B n (tx_nx B n p) ∧ rl_r L r C k ∧ (L 331 14 = ((Q.length + 1 : Nat) : Int) ∧ L 336 r = (Q.length : Int) ∧ (∀ i, i < Q.length → rl_x4 (L 335) (48 * r + 4 * i) (rq_g Q i)) ∧ L 335 (48 * r + 4 * Q.length) = (C.length : Int)) ∧ rl_q3 r K L := by
  obtain ⟨⟨r11, r12, r9⟩, r4, r3⟩ := id rr
  obtain ⟨q14, q36, q35⟩ := rq
  have rs1 := tx_rs_8 rs
  obtain ⟨K1, hK1⟩ : ∃ K1, K1 = sd_s K 331 8 (p : Int) := ⟨_, rfl⟩
  have z8 : K1 331 8 = (p : Int) := by rw [hK1, sd_s_at]
  have z11 : K1 331 11 = (r : Int) := by rw [hK1, sd_s_j (by omega), r11]
  have z14 : K1 331 14 = (Q.length : Int) := by rw [hK1, sd_s_j (by omega), q14]
  rw [← hK1] at rs1
  have iw := tx_isWord rs1 12 (by omega) (W := 1952541541) rfl
  rw [if_pos (show tx_kd B n p = ((600 + 12 : Nat) : Int) from kd), sd_s_id z8] at iw
  obtain ⟨K2, hK2⟩ : ∃ K2, K2 = sd_s K1 331 14 ((Q.length + 1 : Nat) : Int) := ⟨_, rfl⟩
  have rs2 : tx_rs K2 B n p := hK2 ▸ tx_rs_c rs1 (sd_s_j (by omega)) (sd_s_j (by omega)) (sd_s_a (by omega))
  obtain ⟨N, eN, rsN, g1, g2⟩ := sl_pass rs2 (by rw [hK2, sd_s_j (by omega), z8]) (by omega)
  have m336 : N 336 = K 336 := by rw [g1 336 (by omega), hK2, sd_s_a (by omega), hK1, sd_s_a (by omega)]
  have m334 : N 334 = K 334 := by rw [g1 334 (by omega), hK2, sd_s_a (by omega), hK1, sd_s_a (by omega)]
  have m335 : N 335 = K 335 := by rw [g1 335 (by omega), hK2, sd_s_a (by omega), hK1, sd_s_a (by omega)]
  have m333 : N 333 = K 333 := by rw [g1 333 (by omega), hK2, sd_s_a (by omega), hK1, sd_s_a (by omega)]
  have mj : ∀ j, j ≠ 8 → j ≠ 14 → N 331 j = K 331 j := fun j x y => by rw [g2 j x, hK2, sd_s_j y, hK1, sd_s_j x]
  have te := rl_take_e eN (by rw [mj 11 (by omega) (by omega), r11]) (by rw [m336, q36]) hr hQ
  rw [m334, r4] at te
  refine ⟨sd_s N 335 (48 * r + 4 * Q.length) (C.length : Int), ?_, tx_rs_c rsN (by rw [sd_s_a (by omega)]) (by rw [sd_s_a (by omega)]) (sd_s_a (by omega)), rl_r_c rr ?_ ?_ ?_ ?_ ?_, ⟨?_, ?_, fun i hi => ?_, sd_s_at⟩, ?_⟩
  · unfold f_X10_clauseHere
    rw [tx_see rs, ← hK1, Option.bind_some]
    simp only []
    rw [z11, if_neg (by omega), z8]
    unfold f_X10_clauseHere_24
    rw [if_pos rfl, iw, Option.bind_some]
    simp only []
    rw [if_neg (by decide)]
    unfold f_X10_clauseHere_56
    rw [if_pos rfl, z14]
    unfold f_X10_clauseHere_71
    rw [if_neg (by omega), if_pos rfl, z14, sd_wid (by omega) (by omega), show (Q.length : Int) + 1 = ((Q.length + 1 : Nat) : Int) from rfl, ← hK2, te]
  · rw [sd_s_a (by omega), mj 11 (by omega) (by omega)]
  · rw [sd_s_a (by omega), mj 12 (by omega) (by omega), r12]
  · rw [sd_s_a (by omega), mj 9 (by omega) (by omega), r9]
  · rw [sd_s_a (by omega), m333]
  · rw [sd_s_a (by omega), m334]
  · rw [sd_s_a (by omega), g2 14 (by omega), hK2, sd_s_at]
  · rw [sd_s_a (by omega), m336, q36]
  · unfold rl_x4
    rw [sd_s_j (by omega), sd_s_j (by omega), sd_s_j (by omega), sd_s_j (by omega), m335]
    exact q35 i hi
  · refine rl_q3_tr ?_ (rl_q3_5 (by omega))
    have h1 : rl_q3 r K K1 := hK1 ▸ rl_q3_s (by omega)
    have h2 : rl_q3 r K1 K2 := hK2 ▸ rl_q3_s (by omega)
    have h3 : rl_q3 r K2 N := ⟨fun a x _ _ _ _ _ => g1 a x, fun j _ x _ _ _ _ _ _ => g2 j x, fun i _ => by rw [g1 333 (by omega)], fun i _ => by rw [g1 335 (by omega)], fun i _ => by rw [g1 336 (by omega)]⟩
    exact rl_q3_tr h1 (rl_q3_tr h2 h3)
/-- no clause here, or one too many -/
theorem rl_take0 {B : Nat → Int} {n p r k : Nat} {C : List (Int × Int)} {Q : List (Nat × Nat × Nat)} {K : sd_M} (hr : r < 6) (rs : tx_rs K B n p) (rr : rl_r K r C k) (rq : rl_rq K r Q) : (tx_kd B n p ≠ 612 → ∃ L, f_X10_clauseHere K = some (0, L) ∧ L 331 9 = sl_f p 0 ∧ rl_q3 r K L) ∧ (tx_kd B n p = 612 → Q.length = 12 → ∃ L, f_X10_clauseHere K = some (0, L) ∧ L 331 9 = sl_f p 4 ∧ rl_q3 r K L) := by
  have b := tx_rs_b rs
  obtain ⟨⟨r11, r12, r9⟩, r4, r3⟩ := id rr
  obtain ⟨q14, q36, q35⟩ := rq
  obtain ⟨rs1, rr1, fr1⟩ := rl_see8 rr rs
  obtain ⟨K1, hK1⟩ : ∃ K1, K1 = sd_s K 331 8 (p : Int) := ⟨_, rfl⟩
  have z8 : K1 331 8 = (p : Int) := by rw [hK1, sd_s_at]
  have z11 : K1 331 11 = (r : Int) := by rw [hK1, sd_s_j (by omega), r11]
  have z14 : K1 331 14 = (Q.length : Int) := by rw [hK1, sd_s_j (by omega), q14]
  rw [← hK1] at rs1 rr1 fr1
  have iw := tx_isWord rs1 12 (by omega) (W := 1952541541) rfl
  rw [sd_s_id z8] at iw
  have run : f_X10_clauseHere K = f_X10_clauseHere_24 (p : Int) 0 K1 := by
    unfold f_X10_clauseHere
    rw [tx_see rs, ← hK1, Option.bind_some]
    simp only []
    rw [z11, if_neg (by omega), z8]
  rw [run]
  unfold f_X10_clauseHere_24
  rw [if_pos rfl, iw, Option.bind_some]
  simp only []
  constructor
  · intro h
    obtain ⟨L, e, l9, fr⟩ := rl_rf0 fr1 rr1.1.2.2 (p := p) (by omega) (w := 0) (by omega) (z := 0) rfl
    refine ⟨L, ?_, l9, rl_q3_q (rl_q2_q fr)⟩
    rw [if_neg (show ¬ tx_kd B n p = ((600 + 12 : Nat) : Int) from h), if_pos rfl]
    exact e
  · intro h hQ
    obtain ⟨L, e, l9, fr⟩ := rl_rf0 fr1 rr1.1.2.2 (p := p) (by omega) (w := 4) (by omega) (z := 4) rfl
    refine ⟨L, ?_, l9, rl_q3_q (rl_q2_q fr)⟩
    rw [if_pos (show tx_kd B n p = ((600 + 12 : Nat) : Int) from h), if_neg (by decide)]
    unfold f_X10_clauseHere_56
    rw [if_pos rfl, z14]
    unfold f_X10_clauseHere_71
    rw [if_pos (by omega)]
    exact e
