/-! nots and brackets at a fact -/
theorem rl_F_not {B : Nat → Int} {n p r k m fu : Nat} {C : List (Int × Int)} {K : sd_M} {st : List Int} (rr : rl_r K r C k) (rs : tx_rs K B n p) (sk : rl_sk K st) (hl : st.length < 400) (kd : tx_kd B n p = 616) : (rl_dp st = 10 → ∃ L, rl_F m (fu + 1) K = some (0, L) ∧ L 331 9 = sl_f p 2 ∧ rl_q2 r K L) ∧ (rl_dp st ≠ 10 → ∃ L, rl_F m (fu + 1) K = rl_F m fu L ∧ rl_r L r C k ∧ tx_rs L B n (tx_nx B n p) ∧ rl_sk L (11 :: st) ∧ rl_q2 r K L) := by
  have b := tx_rs_b rs
  obtain ⟨rs1, rr1, fr1⟩ := rl_see8 rr rs
  have sk1 := rl_sk_q sk fr1
  obtain ⟨K1, hK1⟩ : ∃ K1, K1 = sd_s K 331 8 (p : Int) := ⟨_, rfl⟩
  have q8 : K1 331 8 = (p : Int) := by rw [hK1, sd_s_at]
  rw [← hK1] at rs1 rr1 fr1 sk1
  have iw : f_X10_isWord 7237492 K1 = some (1, K1) := by
    rw [tx_isWord rs1 16 (by omega) (W := 7237492) rfl, sd_s_id q8, if_pos (show tx_kd B n p = ((600 + 16 : Nat) : Int) from kd)]
  have run : rl_F m (fu + 1) K = (((f_X10_opens 11 K1).bind fun r8 => if r8.1 = 0 then (some (0, r8.2)) else ((f_X10_passWord r8.2).bind fun r10 => f_X10_fact_2 f_X10_fact_75 fu 1 r10.2)).bind (rl_A m)) := by
    unfold rl_F
    rw [f_X10_fact_2, if_neg (show ¬ (1 : Int) = 0 by decide), tx_see rs, ← hK1, Option.bind_some]
    simp only []
    rw [iw, Option.bind_some]
    simp only []
    rw [if_neg (show ¬ (1 : Int) = 0 by decide)]
  obtain ⟨p1, p2⟩ := rl_push (r := r) (w := 11) (Or.inl rfl) sk1 hl
  rw [run]
  constructor
  · intro h
    obtain ⟨L, e, l9, fr⟩ := rl_rf0 fr1 rr1.1.2.2 (p := p) (by omega) (w := 2) (by omega) (z := 2) rfl
    refine ⟨L, ?_, l9, rl_q2_q fr⟩
    rw [p1 h, q8, e, Option.bind_some]
    rfl
  · intro h
    obtain ⟨L, e, skL, frL, f1, f2⟩ := p2 h
    have rrL : rl_r L r C k := rl_r_c rr1 (f1 11 (by omega) (by omega)) (by rw [f1 12 (by omega) (by omega)]; exact rr1.1.2.1) (by rw [f1 9 (by omega) (by omega)]; exact rr1.1.2.2) (f2 333 (by omega) (by omega)) (f2 334 (by omega) (by omega))
    have rsL : tx_rs L B n p := tx_rs_c rs1 (f1 1 (by omega) (by omega)) (f1 8 (by omega) (by omega)) (f2 332 (by omega) (by omega))
    obtain ⟨N, eN, rsN, g1, g2⟩ := sl_pass rsL (by rw [f1 8 (by omega) (by omega), q8]) (by omega)
    have fN : rl_q r L N := ⟨fun a x _ _ => g1 a x, fun j x _ _ _ => g2 j x, fun i _ => by rw [g1 333 (by omega)]⟩
    refine ⟨N, ?_, rl_r_c rrL (g2 11 (by omega)) (by rw [g2 12 (by omega)]; exact rrL.1.2.1) (by rw [g2 9 (by omega)]; exact rrL.1.2.2) (g1 333 (by omega)) (g1 334 (by omega)), rsN, rl_sk_q skL fN, rl_q2_tr (rl_q2_q fr1) (rl_q2_tr frL (rl_q2_q fN))⟩
    rw [e, Option.bind_some]
    simp only []
    rw [if_neg (show ¬ (1 : Int) = 0 by decide), eN, Option.bind_some]
    rfl
theorem rl_F_br {B : Nat → Int} {n p r k m fu : Nat} {C : List (Int × Int)} {K : sd_M} {st : List Int} (rr : rl_r K r C k) (rs : tx_rs K B n p) (sk : rl_sk K st) (hl : st.length < 400) (kd : tx_kd B n p = 91) : (rl_dp st = 10 → ∃ L, rl_F m (fu + 1) K = some (0, L) ∧ L 331 9 = sl_f p 2 ∧ rl_q2 r K L) ∧ (rl_dp st ≠ 10 → ∃ L, rl_F m (fu + 1) K = rl_F m fu L ∧ rl_r L r C k ∧ tx_rs L B n (tx_nx B n p) ∧ rl_sk L (91 :: st) ∧ rl_q2 r K L) := by
  have b := tx_rs_b rs
  have hbb : ∀ j, j < n → -128 ≤ B j ∧ B j < 128 := fun j hj => (rs.1.2.2 j hj).2
  have S := tx_sg (B := B) (n := n) (p := p) hbb (s := 91) (by omega) (by omega) (by omega) (by omega)
  obtain ⟨pn, bp, nx⟩ := S.2 kd
  obtain ⟨rs1, rr1, fr1⟩ := rl_see8 rr rs
  have sk1 := rl_sk_q sk fr1
  obtain ⟨K1, hK1⟩ : ∃ K1, K1 = sd_s K 331 8 (p : Int) := ⟨_, rfl⟩
  have q8 : K1 331 8 = (p : Int) := by rw [hK1, sd_s_at]
  rw [← hK1] at rs1 rr1 fr1 sk1
  have iw : f_X10_isWord 7237492 K1 = some (0, K1) := by
    rw [tx_isWord rs1 16 (by omega) (W := 7237492) rfl, sd_s_id q8, if_neg (by omega)]
  have run : rl_F m (fu + 1) K = (((f_X10_opens 91 K1).bind fun r6 => if r6.1 = 0 then (some (0, r6.2)) else (f_X10_fact_2 f_X10_fact_75 fu 1 (sd_s r6.2 331 8 (sd_w ((r6.2 331 8) + 1))))).bind (rl_A m)) := by
    unfold rl_F
    rw [f_X10_fact_2, if_neg (show ¬ (1 : Int) = 0 by decide), tx_see rs, ← hK1, Option.bind_some]
    simp only []
    rw [iw, Option.bind_some]
    simp only []
    rw [if_pos trivial, if_pos (S.1.mpr kd)]
  obtain ⟨p1, p2⟩ := rl_push (r := r) (w := 91) (Or.inr rfl) sk1 hl
  rw [run]
  constructor
  · intro h
    obtain ⟨L, e, l9, fr⟩ := rl_rf0 fr1 rr1.1.2.2 (p := p) (by omega) (w := 2) (by omega) (z := 2) rfl
    refine ⟨L, ?_, l9, rl_q2_q fr⟩
    rw [p1 h, q8, e, Option.bind_some]
    rfl
  · intro h
    obtain ⟨L, e, skL, frL, f1, f2⟩ := p2 h
    have rrL : rl_r L r C k := rl_r_c rr1 (f1 11 (by omega) (by omega)) (by rw [f1 12 (by omega) (by omega)]; exact rr1.1.2.1) (by rw [f1 9 (by omega) (by omega)]; exact rr1.1.2.2) (f2 333 (by omega) (by omega)) (f2 334 (by omega) (by omega))
    have rsL : tx_rs L B n p := tx_rs_c rs1 (f1 1 (by omega) (by omega)) (f1 8 (by omega) (by omega)) (f2 332 (by omega) (by omega))
    obtain ⟨a1, a2, a3⟩ := rl_sgn rrL rsL pn nx
    refine ⟨_, ?_, a2, a1, rl_sk_q skL a3, rl_q2_tr (rl_q2_q fr1) (rl_q2_tr frL (rl_q2_q a3))⟩
    rw [e, Option.bind_some]
    simp only []
    rw [if_neg (show ¬ (1 : Int) = 0 by decide), f1 8 (by omega) (by omega), q8, sd_wid (by omega) (by omega)]
    rfl
