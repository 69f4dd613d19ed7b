/-! a comparison at a fact -/
theorem rl_F_cmp {B : Nat → Int} {n p r k m fu : Nat} {C : List (Int × Int)} {K : sd_M} {st : List Int} {o : rl_R} (rr : rl_r K r C k) (rs : tx_rs K B n p) (sk : rl_sk K st) (k1 : tx_kd B n p ≠ 616) (k2 : tx_kd B n p ≠ 91) (ho : ∀ K : sd_M, tx_rs K B n p → rl_r K r C k → rl_Rf B n r o K (f_X10_compare K)) : rl_p o (fun f => ∃ L, rl_F m (fu + 2) K = some (0, L) ∧ L 331 9 = f ∧ rl_q2 r K L) (fun p2 kk D => ∃ L, rl_F m (fu + 2) K = rl_G m 4000 4000 L ∧ rl_r L r D kk ∧ tx_rs L B n p2 ∧ rl_sk L st ∧ rl_q2 r K L) := by
  have hbb : ∀ j, j < n → -128 ≤ B j ∧ B j < 128 := fun j hj => (rs.1.2.2 j hj).2
  have S := tx_sg (B := B) (n := n) (p := p) hbb (s := 91) (by omega) (by omega) (by omega) (by omega)
  obtain ⟨rs1, rr1, fr1⟩ := rl_see8 rr rs
  have sk1 := rl_sk_q sk fr1
  obtain ⟨K1, hK1⟩ : ∃ K1, K1 = sd_s K 331 8 (p : Int) := ⟨_, rfl⟩
  have q8 : K1 331 8 = (p : Int) := by rw [hK1, sd_s_at]
  rw [← hK1] at rs1 rr1 fr1 sk1
  have iw : f_X10_isWord 7237492 K1 = some (0, K1) := by
    rw [tx_isWord rs1 16 (by omega) (W := 7237492) rfl, sd_s_id q8, if_neg (show ¬ tx_kd B n p = ((600 + 16 : Nat) : Int) from k1)]
  have run : rl_F m (fu + 2) K = (((f_X10_compare K1).bind fun r1 => if r1.1 = 0 ∨ r1.1 = 1 then some (r1.1, r1.2) else none).bind (rl_A m)) := by
    unfold rl_F
    rw [f_X10_fact_2, if_neg (show ¬ (1 : Int) = 0 by decide), tx_see rs, ← hK1, Option.bind_some]
    simp only []
    rw [iw, Option.bind_some]
    simp only []
    rw [if_pos trivial, if_neg (fun w => k2 (S.1.mp w)), f_X10_fact_2, if_pos rfl]
    rfl
  rw [run]
  refine rl_p_w (ho K1 rs1 rr1) (fun f h => ?_) (fun p2 kk D h => ?_)
  · obtain ⟨L, e, l9, fr⟩ := h
    refine ⟨L, ?_, l9, rl_q2_q (rl_q_tr fr1 fr)⟩
    rw [e, Option.bind_some]
    rfl
  · obtain ⟨L, e, rsL, rrL, fr⟩ := h
    refine ⟨L, ?_, rrL, rsL, rl_sk_q sk1 fr, rl_q2_q (rl_q_tr fr1 fr)⟩
    rw [e, Option.bind_some]
    exact rl_A1
