/-! or; the end of a test -/
theorem rl_B_or {B : Nat → Int} {n p r k m : Nat} {C : List (Int × Int)} {L : sd_M} {st : List Int} {a o : Bool} (hr : r < 6) (rr : rl_r L r C k) (rs : tx_rs L B n p) (q8 : L 331 8 = (p : Int)) (sk : rl_sk L (rl_aw a ++ (rl_ow o ++ st))) (hb : rl_b0 st) (hC : C.length + 1 < 400) (hl : st.length < 390) (kd : tx_kd B n p = 615) : ∃ N, rl_Bb (m + 1) (0, L) = rl_F m 4000 N ∧ rl_r N r (C ++ rl_ac a ++ rl_oc o) k ∧ tx_rs N B n (tx_nx B n p) ∧ rl_sk N (rl_aw false ++ (rl_ow true ++ st)) ∧ rl_q2 r L N := by
  have iw := rl_iw rs q8 14 (by omega) (W := 6385252) rfl
  rw [if_neg (by omega)] at iw
  have iw2 := rl_iw rs q8 15 (by omega) (W := 28530) rfl
  rw [if_pos (show tx_kd B n p = ((600 + 15 : Nat) : Int) from kd)] at iw2
  obtain ⟨N, eN, rsN, g1, g2⟩ := sl_pass rs q8 (by omega)
  have fN : rl_q r L N := ⟨fun a x _ _ => g1 a x, fun j x _ _ _ => g2 j x, fun i _ => by rw [g1 333 (by omega)]⟩
  have rrN : rl_r N r C k := rl_r_c rr (g2 11 (by omega)) (by rw [g2 12 (by omega)]; exact rr.1.2.1) (by rw [g2 9 (by omega)]; exact rr.1.2.2) (g1 333 (by omega)) (g1 334 (by omega))
  obtain ⟨L2, e2, rr2, rs2, sk2, fr2, _⟩ := rl_ldv1 hr rrN rsN (rl_sk_q sk fN) hb hC
  obtain ⟨sk3, fr3⟩ := rl_push2 (r := r) (w := 13) (Or.inr rfl) sk2 (by omega)
  refine ⟨_, ?_, rl_r_c rr2 ?_ ?_ ?_ ?_ ?_, tx_rs_c rs2 ?_ ?_ ?_, sk3, rl_q2_tr (rl_q2_q fN) (rl_q2_tr fr2 fr3)⟩
  · unfold rl_Bb
    rw [iw, Option.bind_some]
    simp only []
    rw [if_pos trivial, iw2, Option.bind_some]
    simp only []
    rw [if_neg (show ¬ (1 : Int) = 0 by decide)]
    unfold f_X10_tested_49 f_X10_tested_54
    rw [if_neg (show ¬ (1 : Int) = 0 by decide), iw, Option.bind_some]
    simp only []
    rw [if_pos trivial]
    unfold f_X10_tested_76
    rw [eN, Option.bind_some]
    simp only []
    rw [show f_X10_strength 13 N = some (1, N) from rfl, Option.bind_some]
    simp only []
    rw [e2, Option.bind_some]
    simp only []
    rw [sk2.1, if_pos (by omega), Int.toNat_natCast, sd_s_a (show (331 : Nat) ≠ 338 by omega), sk2.1, sd_wid (by omega) (by omega)]
    exact rl_F0
  · rw [sd_s_j (by omega), sd_s_a (by omega)]
  · rw [sd_s_j (by omega), sd_s_a (by omega)]
    exact rr2.1.2.1
  · rw [sd_s_j (by omega), sd_s_a (by omega)]
    exact rr2.1.2.2
  · rw [sd_s_a (by omega), sd_s_a (by omega)]
  · rw [sd_s_a (by omega), sd_s_a (by omega)]
  · rw [sd_s_j (by omega), sd_s_a (by omega)]
  · rw [sd_s_j (by omega), sd_s_a (by omega)]
  · rw [sd_s_a (by omega), sd_s_a (by omega)]
