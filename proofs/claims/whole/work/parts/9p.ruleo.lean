/-! behind a fact, no bracket closes -/
theorem rl_G_k {B : Nat → Int} {n p r k m fuC fuL : Nat} {C : List (Int × Int)} {K : sd_M} {st : List Int} {a o : Bool} (rr : rl_r K r C k) (rs : tx_rs K B n p) (sk : rl_sk K (rl_aw a ++ (rl_ow o ++ st))) (hb : rl_b0 st) (kd : tx_kd B n p ≠ 93 ∨ st = []) : ∃ L, rl_G m (fuC + 1) (fuL + 1) K = rl_Bb m (0, L) ∧ L 331 8 = (p : Int) ∧ rl_r L r C k ∧ tx_rs L B n p ∧ rl_sk L (rl_aw a ++ (rl_ow o ++ st)) ∧ rl_q2 r K L := by
  have hbb : ∀ j, j < n → -128 ≤ B j ∧ B j < 128 := fun j hj => (rs.1.2.2 j hj).2
  have S := tx_sg (B := B) (n := n) (p := p) hbb (s := 93) (by omega) (by omega) (by omega) (by omega)
  obtain ⟨rs1, rr1, fr1⟩ := rl_see8 rr rs
  have sk1 := rl_sk_q sk fr1
  have l3 : f_X10_layDown_0 (fuL + 1) 3 K = some (0, K) := by
    refine rl_ld0 sk ?_
    cases a with
    | true => exact Or.inr ⟨12, rl_ow o ++ st, rfl, by decide⟩
    | false =>
      cases o with
      | false => exact rl_b0_l hb (by omega)
      | true => exact Or.inr ⟨13, st, rfl, by decide⟩
  refine ⟨sd_s K 331 8 (p : Int), ?_, sd_s_at, rr1, rs1, sk1, rl_q2_q fr1⟩
  unfold rl_G
  rw [l3, Option.bind_some]
  simp only []
  rw [f_X10_closes_5, tx_see rs, Option.bind_some]
  simp only []
  by_cases c : tx_kd B n p = 93
  · have e : st = [] := by
      rcases kd with q | q
      · exact absurd c q
      · exact q
    have ins := rl_inside sk1
    rw [if_neg (show ¬ (91 : Int) ∈ rl_aw a ++ (rl_ow o ++ st) by
      rw [e]
      cases a <;> cases o <;> decide)] at ins
    rw [if_pos (S.1.mpr c), ins, Option.bind_some]
    rfl
  · rw [if_neg (fun w => c (S.1.mp w))]
    rfl
