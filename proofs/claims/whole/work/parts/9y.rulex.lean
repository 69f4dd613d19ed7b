/-! one clause, in both -/
abbrev rl_15 (R : Nat) : Nat → Int → sd_M → Option (Int × sd_M) := f_X5_reads_15 (f_X5_reads_31 R) (f_X5_reads_43 R) (f_X5_reads_131 R) R
def rl_tl (k15 : Int → sd_M → Option (Int × sd_M)) (R : Nat) (c : Int) (N : sd_M) : Option (Int × sd_M) := (f_X7_kind N).bind fun r2 => if r2.1 = 512 then (some (1, r2.2)) else ((f_X7_kind r2.2).bind fun r4 => if r4.1 = 59 then ((f_X7_step r4.2).bind fun r6 => k15 (sd_w (c + 1)) r6.2) else (f_X5_reads_131 R r4.2))
/-- the class, up to its sum -/
theorem rl_c1 {B : Nat → Int} {n p R k : Nat} {C : List (Int × Int)} {Q : List (Nat × Nat × Nat)} {M : sd_M} (hR : 16 ≤ R) (hQ : Q.length < 12) (cs : tx_cs M B n p) (rc : rl_c M R C k) (cq : rl_cq M R Q) (kd : tx_kd B n p = 612) (fu : Nat) : ∃ N, rl_15 R (fu + 1) (Q.length : Int) M = ((f_X5_readsSum R N).bind fun r6 => if r6.1 = 0 then (some (0, r6.2)) else ((f_X7_kind r6.2).bind fun r8 => if r8.1 = 613 then ((f_X7_step r8.2).bind fun r10 => (f_X5_readsTest R 0 r10.2).bind fun r11 => if r11.1 = 0 then (some (0, r11.2)) else ((f_X4_addClause R (C.length : Int) (r6.2 R 1) r11.2).bind fun r1 => rl_tl (rl_15 R fu) R (Q.length : Int) r1.2)) else ((f_X4_addClause R (C.length : Int) (r6.2 R 1) r8.2).bind fun r1 => rl_tl (rl_15 R fu) R (Q.length : Int) r1.2))) ∧ tx_cs N B n (tx_nx B n p) ∧ rl_c N R C k ∧ rl_cq N R Q ∧ rl_fw R M N := by
  obtain ⟨N, e, csN, a1, a2⟩ := tx_step cs
  have fr := rl_st_f (R := R) hR ⟨a1, a2⟩
  have rcN := rl_st_c hR ⟨a1, a2⟩ rc
  refine ⟨N, ?_, csN, rcN, rl_cq_f hR cq fr, rl_fw_f fr⟩
  unfold rl_15
  rw [f_X5_reads_15, if_neg (by omega), tx_kind cs, Option.bind_some]
  simp only []
  rw [if_pos kd, if_pos (by omega), e, Option.bind_some]
  simp only []
  rw [rcN.1]
  rfl
theorem rl_c0 {B : Nat → Int} {n p R k : Nat} {C : List (Int × Int)} {Q : List (Nat × Nat × Nat)} {M : sd_M} (hR : 16 ≤ R) (hQ : Q.length ≤ 12) (cs : tx_cs M B n p) (fu : Nat) : (tx_kd B n p ≠ 612 → ∃ N, rl_15 R (fu + 1) (Q.length : Int) M = some (0, N) ∧ N 1 2 = sl_f p 0 ∧ rl_fw R M N) ∧ (tx_kd B n p = 612 → Q.length = 12 → ∃ N, rl_15 R (fu + 1) (Q.length : Int) M = some (0, N) ∧ N 1 2 = sl_f p 4 ∧ rl_fw R M N) := by
  have run : rl_15 R (fu + 1) (Q.length : Int) M = if tx_kd B n p = 612 then (if (Q.length : Int) < 12 then ((f_X7_step M).bind fun r5 => (f_X5_readsSum R r5.2).bind fun r6 => if r6.1 = 0 then (some (0, r6.2)) else ((f_X7_kind r6.2).bind fun r8 => if r8.1 = 613 then ((f_X7_step r8.2).bind fun r10 => (f_X5_readsTest R 0 r10.2).bind fun r11 => if r11.1 = 0 then (some (0, r11.2)) else (f_X5_reads_102 (rl_15 R fu) (f_X5_reads_31 R) (f_X5_reads_43 R) (f_X5_reads_131 R) R (Q.length : Int) (r5.2 R 1) (r6.2 R 1) r11.2)) else (f_X5_reads_102 (rl_15 R fu) (f_X5_reads_31 R) (f_X5_reads_43 R) (f_X5_reads_131 R) R (Q.length : Int) (r5.2 R 1) (r6.2 R 1) r8.2))) else (f_X5_reads_43 R M)) else (f_X5_reads_31 R M) := by
    unfold rl_15
    rw [f_X5_reads_15, if_neg (by omega), tx_kind cs, Option.bind_some]
  rw [run]
  constructor
  · intro h
    obtain ⟨N, e, n2, fr⟩ := rl_f0 hR cs (w := 0) (by omega)
    refine ⟨N, ?_, n2, rl_fw_f fr⟩
    rw [if_neg h]
    exact e
  · intro h h2
    obtain ⟨N, e, n2, fr⟩ := rl_f0 hR cs (w := 4) (by omega)
    refine ⟨N, ?_, n2, rl_fw_f fr⟩
    rw [if_pos h, if_neg (by omega)]
    exact e
def rl_K0 (B : Nat → Int) (n R r p k : Nat) (C : List (Int × Int)) (Q : List (Nat × Nat × Nat)) (f : Int) : Prop := 0 < f ∧ (∀ (M : sd_M) (fu : Nat), tx_cs M B n p → rl_c M R C k → rl_cq M R Q → ∃ N, rl_15 R (fu + 1) (Q.length : Int) M = some (0, N) ∧ N 1 2 = f ∧ rl_fw R M N) ∧ (∀ K : sd_M, tx_rs K B n p → rl_r K r C k → rl_rq K r Q → ∃ L, f_X10_clauseHere K = some (0, L) ∧ L 331 9 = f ∧ rl_q3 r K L)
def rl_K1 (B : Nat → Int) (n R r p k : Nat) (C : List (Int × Int)) (Q : List (Nat × Nat × Nat)) (p2 k2 : Nat) (D : List (Int × Int)) (x : Nat × Nat × Nat) : Prop := (Q.length < 12 ∧ k2 ≤ 60 ∧ D.length ≤ p2 ∧ p2 ≤ n) ∧ ((∃ E, D = C ++ E ∧ rl_cd E) ∧ rl_kq D x) ∧ (∀ (M : sd_M) (fu : Nat), tx_cs M B n p → rl_c M R C k → rl_cq M R Q → ∃ N, rl_15 R (fu + 1) (Q.length : Int) M = rl_tl (rl_15 R fu) R (Q.length : Int) N ∧ tx_cs N B n p2 ∧ rl_c N R D k2 ∧ rl_cq N R (Q ++ [x]) ∧ rl_fw R M N) ∧ (∀ K : sd_M, tx_rs K B n p → rl_r K r C k → rl_rq K r Q → ∃ L, f_X10_clauseHere K = some (1, L) ∧ tx_rs L B n p2 ∧ rl_r L r D k2 ∧ rl_rq L r (Q ++ [x]) ∧ rl_q3 r K L)
/-- the reference behind its sum -/
theorem rl_take2 {B : Nat → Int} {n p r k : Nat} {D : List (Int × Int)} {Q : List (Nat × Nat × Nat)} {L : sd_M} {a : Int} (hr : r < 6) (hQ : Q.length < 12) (rs : tx_rs L B n p) (rr : rl_r L r D k) (l14 : L 331 14 = ((Q.length + 1 : Nat) : Int)) (l36 : L 336 r = (Q.length : Int)) (lo : ∀ i, i < Q.length → rl_x4 (L 335) (48 * r + 4 * i) (rq_g Q i)) (x0 : L 335 (48 * r + 4 * Q.length) = a) : ∃ L2, (tx_kd B n p = 613 → rl_T1 (48 * r + 4 * Q.length) (1, L) = ((f_X10_tested L2).bind fun r14 => if r14.1 = 0 then (some (0, r14.2)) else (f_X10_isTakeHere_110 ((48 * r + 4 * Q.length : Nat) : Int) r14.2)) ∧ tx_rs L2 B n (tx_nx B n p) ∧ L2 335 (48 * r + 4 * Q.length + 2) = (D.length : Int)) ∧ (tx_kd B n p ≠ 613 → rl_T1 (48 * r + 4 * Q.length) (1, L) = f_X10_isTakeHere_110 ((48 * r + 4 * Q.length : Nat) : Int) L2 ∧ tx_rs L2 B n p ∧ L2 335 (48 * r + 4 * Q.length + 2) = -1) ∧ rl_r L2 r D k ∧ L2 331 14 = ((Q.length + 1 : Nat) : Int) ∧ L2 336 r = (Q.length : Int) ∧ (∀ i, i < Q.length → rl_x4 (L2 335) (48 * r + 4 * i) (rq_g Q i)) ∧ L2 335 (48 * r + 4 * Q.length) = a ∧ L2 335 (48 * r + 4 * Q.length + 1) = (D.length : Int) ∧ rl_q3 r L L2 := by
  obtain ⟨⟨r11, r12, r9⟩, r4, r3⟩ := id rr
  obtain ⟨x, hx⟩ : ∃ x : Nat, x = 48 * r + 4 * Q.length := ⟨_, rfl⟩
  rw [← hx] at x0
  obtain ⟨L1, hL1⟩ : ∃ L1, L1 = sd_s (sd_s L 335 (x + 1) (D.length : Int)) 335 (x + 2) (-1) := ⟨_, rfl⟩
  have m331 : L1 331 = L 331 := by rw [hL1, sd_s_a (by omega), sd_s_a (by omega)]
  have ma : ∀ a, a ≠ 335 → L1 a = L a := fun a h => by rw [hL1, sd_s_a h, sd_s_a h]
  have m35 : ∀ i, i ≠ x + 1 → i ≠ x + 2 → L1 335 i = L 335 i := fun i h g => by rw [hL1, sd_s_j g, sd_s_j h]
  have m1 : L1 335 (x + 1) = (D.length : Int) := by rw [hL1, sd_s_j (by omega), sd_s_at]
  have m2 : L1 335 (x + 2) = -1 := by rw [hL1, sd_s_at]
  have rs1 : tx_rs L1 B n p := tx_rs_c rs (by rw [m331]) (by rw [m331]) (ma 332 (by omega))
  have q1 : rl_q3 r L L1 := hL1 ▸ rl_q3_tr (rl_q3_5 (by omega)) (rl_q3_5 (by omega))
  have iw := tx_isWord rs1 13 (by omega) (W := 26982) rfl
  have T : rl_T1 x (1, L) = (f_X10_takesWord 26982 L1).bind (rl_T2 x) := by
    unfold rl_T1
    rw [if_neg (show ¬ (1 : Int) = 0 by decide)]
    simp only []
    rw [r11, if_pos (by omega), Int.toNat_natCast, r4, ← hL1]
  obtain ⟨L3, hL3⟩ : ∃ L3, L3 = sd_s L1 331 8 (p : Int) := ⟨_, rfl⟩
  have p331 : ∀ j, j ≠ 8 → L3 331 j = L 331 j := fun j h => by rw [hL3, sd_s_j h, m331]
  have pa : ∀ a, a ≠ 331 → L3 a = L1 a := fun a h => by rw [hL3, sd_s_a h]
  have rs3 : tx_rs L3 B n p := hL3 ▸ tx_rs_8 rs1
  have z8 : L3 331 8 = (p : Int) := by rw [hL3, sd_s_at]
  have q3 : rl_q3 r L L3 := rl_q3_tr q1 (hL3 ▸ rl_q3_s (by omega))
  rw [← hL3] at iw
  rw [← hx]
  by_cases kd : tx_kd B n p = 613
  · rw [if_pos (show tx_kd B n p = ((600 + 13 : Nat) : Int) from kd)] at iw
    obtain ⟨N, eN, rsN, g1, g2⟩ := sl_pass rs3 z8 (by omega)
    have t334 : N 334 = L 334 := by rw [g1 334 (by omega), pa 334 (by omega), ma 334 (by omega)]
    have t331 : ∀ j, j ≠ 8 → N 331 j = L 331 j := fun j h => by rw [g2 j h, p331 j h]
    have t335 : N 335 = L1 335 := by rw [g1 335 (by omega), pa 335 (by omega)]
    have n11 : N 331 11 = (r : Int) := by rw [t331 11 (by omega), r11]
    have tw : f_X10_takesWord 26982 L1 = some (1, N) := by
      unfold f_X10_takesWord
      rw [iw, Option.bind_some]
      simp only []
      rw [if_neg (by decide), eN, Option.bind_some]
    refine ⟨sd_s N 335 (x + 2) (D.length : Int), fun _ => ⟨?_, tx_rs_c rsN (by rw [sd_s_a (by omega)]) (by rw [sd_s_a (by omega)]) (sd_s_a (by omega)), sd_s_at⟩, fun h => absurd kd h, rl_r_c rr ?_ ?_ ?_ ?_ ?_, ?_, ?_, fun i hi => ?_, ?_, ?_, ?_⟩
    · rw [T, tw, Option.bind_some]
      unfold rl_T2
      simp only []
      rw [if_neg (show ¬ (1 : Int) = 0 by decide)]
      rw [n11, if_pos (by omega), Int.toNat_natCast, t334, r4]
    · rw [sd_s_a (by omega), t331 11 (by omega)]
    · rw [sd_s_a (by omega), t331 12 (by omega), r12]
    · rw [sd_s_a (by omega), t331 9 (by omega), r9]
    · rw [sd_s_a (by omega), g1 333 (by omega), pa 333 (by omega), ma 333 (by omega)]
    · rw [sd_s_a (by omega), t334]
    · rw [sd_s_a (by omega), t331 14 (by omega), l14]
    · rw [sd_s_a (by omega), g1 336 (by omega), pa 336 (by omega), ma 336 (by omega), l36]
    · unfold rl_x4
      rw [sd_s_j (by omega), sd_s_j (by omega), sd_s_j (by omega), sd_s_j (by omega), t335, m35 _ (by omega) (by omega), m35 _ (by omega) (by omega), m35 _ (by omega) (by omega), m35 _ (by omega) (by omega)]
      exact lo i hi
    · rw [sd_s_j (by omega), t335, m35 _ (by omega) (by omega), x0]
    · rw [sd_s_j (by omega), t335, m1]
    · refine rl_q3_tr q3 (rl_q3_tr ?_ (rl_q3_5 (by omega)))
      exact ⟨fun a x _ _ _ _ _ => g1 a x, fun j _ x _ _ _ _ _ _ => g2 j x, fun i _ => by rw [g1 333 (by omega)], fun i _ => by rw [g1 335 (by omega)], fun i _ => by rw [g1 336 (by omega)]⟩
  · rw [if_neg (show ¬ tx_kd B n p = ((600 + 13 : Nat) : Int) from kd)] at iw
    have tw : f_X10_takesWord 26982 L1 = some (0, L3) := by
      unfold f_X10_takesWord
      rw [iw, Option.bind_some]
      rfl
    refine ⟨L3, fun h => absurd h kd, fun _ => ⟨?_, rs3, by rw [pa 335 (by omega), m2]⟩, rl_r_c rr ?_ ?_ ?_ ?_ ?_, ?_, ?_, fun i hi => ?_, ?_, ?_, q3⟩
    · rw [T, tw, Option.bind_some]
      unfold rl_T2
      rw [if_pos rfl]
    · rw [p331 11 (by omega)]
    · rw [p331 12 (by omega), r12]
    · rw [p331 9 (by omega), r9]
    · rw [pa 333 (by omega), ma 333 (by omega)]
    · rw [pa 334 (by omega), ma 334 (by omega)]
    · rw [p331 14 (by omega), l14]
    · rw [pa 336 (by omega), ma 336 (by omega), l36]
    · unfold rl_x4
      rw [pa 335 (by omega), m35 _ (by omega) (by omega), m35 _ (by omega) (by omega), m35 _ (by omega) (by omega), m35 _ (by omega) (by omega)]
      exact lo i hi
    · rw [pa 335 (by omega), m35 _ (by omega) (by omega), x0]
    · rw [pa 335 (by omega), m1]
