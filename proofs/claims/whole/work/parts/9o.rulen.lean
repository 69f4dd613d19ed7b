/-! a bracket closes -/
theorem rl_G_br {B : Nat → Int} {n p r k m fuC fuL : Nat} {C : List (Int × Int)} {K : sd_M} {s : List Int} {a o : Bool} (hr : r < 6) (rr : rl_r K r C k) (rs : tx_rs K B n p) (sk : rl_sk K (rl_aw a ++ (rl_ow o ++ (91 :: s)))) (hC : C.length + 1 < 400) (kd : tx_kd B n p = 93) : ∃ L, rl_G m (fuC + 1) (fuL + 1) K = rl_G m fuC 4000 L ∧ rl_r L r (C ++ rl_ac a ++ rl_oc o) k ∧ tx_rs L B n (tx_nx B n p) ∧ rl_sk L s ∧ rl_q2 r K L := by
  have hbb : ∀ j, j < n → -128 ≤ B j ∧ B j < 128 := fun j hj => (rs.1.2.2 j hj).2
  have hb : rl_b0 (91 :: s) := Or.inr ⟨s, rfl⟩
  have n4 := rs.1.2.1
  have S := tx_sg (B := B) (n := n) (p := p) hbb (s := 93) (by omega) (by omega) (by omega) (by omega)
  obtain ⟨pn, bp, nx⟩ := S.2 kd
  obtain ⟨rs1, rr1, fr1⟩ := rl_see8 rr rs
  have sk1 := rl_sk_q sk fr1
  have l3 : f_X10_layDown_0 (fuL + 1) 3 K = some (0, K) := by
    refine rl_ld0 sk ?_
    cases a with
    | true => exact Or.inr ⟨12, rl_ow o ++ (91 :: s), rfl, by decide⟩
    | false =>
      cases o with
      | false => exact rl_b0_l hb (by omega)
      | true => exact Or.inr ⟨13, 91 :: s, rfl, by decide⟩
  have ins := rl_inside sk1
  rw [if_pos (show (91 : Int) ∈ rl_aw a ++ (rl_ow o ++ (91 :: s)) by simp)] at ins
  obtain ⟨L, eL, rrL, rsL, skL, frL, e8⟩ := rl_ldv1 hr rr1 rs1 sk1 hb hC
  obtain ⟨s1, ⟨s2, s3⟩, s4, s5⟩ := skL
  rw [List.length_cons] at s1 s5
  have dp : rl_dp (91 :: s) = rl_dp s + 1 := rfl
  rw [dp] at s4
  rw [sd_s_at] at e8
  obtain ⟨x1, x2⟩ : sd_w (((s.length + 1 : Nat) : Int) - 1) = (s.length : Int) ∧ sd_w ((p : Int) + 1) = ((p + 1 : Nat) : Int) := by
    rw [sd_wid (by omega) (by omega), sd_wid (by omega) (by omega)]
    omega
  have dpb : ∀ s : List Int, rl_dp s ≤ s.length := by
    intro s
    induction s with
    | nil => exact Nat.le_refl _
    | cons d s ih =>
      rw [rl_dp, List.length_cons]
      split <;> omega
  have db := dpb s
  have x3 : sd_w (((rl_dp s + 1 : Nat) : Int) - 1) = (rl_dp s : Int) := by
    rw [sd_wid (by omega) (by omega)]
    omega
  refine ⟨sd_s (sd_s (sd_s L 331 16 (s.length : Int)) 331 13 (rl_dp s : Int)) 331 8 ((p + 1 : Nat) : Int), ?_, ?_, ?_, ?_, ?_⟩
  · unfold rl_G
    rw [l3, Option.bind_some]
    simp only []
    rw [f_X10_closes_5, tx_see rs, Option.bind_some]
    simp only []
    rw [if_pos (S.1.mpr kd), ins, Option.bind_some]
    simp only []
    rw [if_neg (show ¬ (1 : Int) = 0 by decide), eL, Option.bind_some]
    simp only []
    rw [s1, x1, sd_s_j (show (13 : Nat) ≠ 16 by omega), s4, x3, sd_s_j (show (8 : Nat) ≠ 13 by omega), sd_s_j (show (8 : Nat) ≠ 16 by omega), e8, x2]
    rfl
  · clear x1 x2 x3
    exact rl_r_c rrL (by rw [sd_s_j (by omega), sd_s_j (by omega), sd_s_j (by omega)]) (by rw [sd_s_j (by omega), sd_s_j (by omega), sd_s_j (by omega)]; exact rrL.1.2.1) (by rw [sd_s_j (by omega), sd_s_j (by omega), sd_s_j (by omega)]; exact rrL.1.2.2) (by rw [sd_s_a (by omega), sd_s_a (by omega), sd_s_a (by omega)]) (by rw [sd_s_a (by omega), sd_s_a (by omega), sd_s_a (by omega)])
  · clear x1 x2 x3
    rw [nx]
    exact tx_rs_n (tx_rb_c rsL.1 (by rw [sd_s_j (by omega), sd_s_j (by omega)]) (by rw [sd_s_a (by omega), sd_s_a (by omega)])) (by omega)
  · clear x1 x2 x3
    exact ⟨by rw [sd_s_j (by omega), sd_s_j (by omega), sd_s_at], by rw [sd_s_a (by omega), sd_s_a (by omega), sd_s_a (by omega)]; exact s3, by rw [sd_s_j (by omega), sd_s_at], by omega⟩
  · clear x1 x2 x3
    exact rl_q2_tr (rl_q2_q fr1) (rl_q2_tr frL (rl_q2_tr (rl_q2_s (by omega)) (rl_q2_tr (rl_q2_s (by omega)) (rl_q2_s (by omega)))))
