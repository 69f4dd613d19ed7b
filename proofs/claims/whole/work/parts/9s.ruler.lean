/-! the end of a test -/
theorem rl_B_end {B : Nat → Int} {n p r k m : Nat} {C : List (Int × Int)} {L : sd_M} {st : List Int} {a o : Bool} (hr : r < 6) (rr : rl_r L r C k) (rs : tx_rs L B n p) (q8 : L 331 8 = (p : Int)) (sk : rl_sk L (rl_aw a ++ (rl_ow o ++ st))) (hb : rl_b0 st) (hC : C.length + 1 < 400) (k1 : tx_kd B n p ≠ 614) (k2 : tx_kd B n p ≠ 615) : (st = [] → ∃ N, rl_Bb (m + 1) (0, L) = some (1, N) ∧ rl_r N r (C ++ rl_ac a ++ rl_oc o) k ∧ tx_rs N B n p ∧ rl_q2 r L N) ∧ (st ≠ [] → ∃ N, rl_Bb (m + 1) (0, L) = some (0, N) ∧ N 331 9 = sl_f p 0 ∧ rl_q2 r L N) := by
  have b := tx_rs_b rs
  have iw := rl_iw rs q8 14 (by omega) (W := 6385252) rfl
  rw [if_neg (show ¬ tx_kd B n p = ((600 + 14 : Nat) : Int) from k1)] at iw
  have iw2 := rl_iw rs q8 15 (by omega) (W := 28530) rfl
  rw [if_neg (show ¬ tx_kd B n p = ((600 + 15 : Nat) : Int) from k2)] at iw2
  have ins := rl_inside sk
  have run : rl_Bb (m + 1) (0, L) = f_X10_tested_112 L := by
    unfold rl_Bb
    rw [iw, Option.bind_some]
    simp only []
    rw [if_pos trivial, iw2, Option.bind_some]
    simp only []
    rw [if_pos trivial]
    unfold f_X10_tested_54
    rw [if_pos rfl, f_X10_tested_12, if_pos rfl]
  rw [run]
  unfold f_X10_tested_112
  constructor
  · intro e
    rw [if_neg (show ¬ (91 : Int) ∈ rl_aw a ++ (rl_ow o ++ st) by
      rw [e]
      cases a <;> cases o <;> decide)] at ins
    obtain ⟨L2, e2, rr2, rs2, sk2, fr2, _⟩ := rl_ldv1 hr rr rs sk hb hC
    refine ⟨L2, ?_, rr2, rs2, fr2⟩
    rw [ins, Option.bind_some]
    simp only []
    rw [if_pos trivial, e2, Option.bind_some]
  · intro e
    have e2 : ∃ s, st = 91 :: s := by
      rcases hb with h | h
      · exact absurd h e
      · exact h
    obtain ⟨s, hs⟩ := e2
    rw [if_pos (show (91 : Int) ∈ rl_aw a ++ (rl_ow o ++ st) by rw [hs]; simp)] at ins
    obtain ⟨rs1, rr1, fr1⟩ := rl_see8 rr rs
    obtain ⟨N, eN, n9, fr⟩ := rl_rf0 fr1 rr1.1.2.2 (p := p) (by omega) (w := 0) (by omega) (z := 0) rfl
    refine ⟨N, ?_, n9, rl_q2_q fr⟩
    rw [ins, Option.bind_some]
    simp only []
    rw [if_neg (show ¬ (1 : Int) = 0 by decide), tx_see rs, Option.bind_some]
    simp only []
    rw [sd_s_at]
    exact eN
