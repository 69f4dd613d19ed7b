/-! what waits in a test, laid down -/
def rl_b0 (st : List Int) : Prop := st = [] ∨ ∃ s, st = 91 :: s
def rl_aw (a : Bool) : List Int := if a = true then [12] else []
def rl_ow (a : Bool) : List Int := if a = true then [13] else []
def rl_ac (a : Bool) : List (Int × Int) := if a = true then [(12, 0)] else []
def rl_oc (a : Bool) : List (Int × Int) := if a = true then [(13, 0)] else []
theorem rl_b0_l {st : List Int} {v : Int} (h : rl_b0 st) (hv : 1 ≤ v) : st = [] ∨ ∃ c s, st = c :: s ∧ rl_sg c < v := by
  rcases h with h | ⟨s, h⟩
  · exact Or.inl h
  · refine Or.inr ⟨91, s, h, ?_⟩
    have : rl_sg 91 = 0 := by decide
    omega
theorem rl_q2_rf {r : Nat} {K : sd_M} : rl_q2 r K K := ⟨fun _ _ _ _ _ => rfl, fun _ _ _ _ _ _ _ => rfl, fun _ _ => rfl⟩
theorem rl_ldo {B : Nat → Int} {n p r k fu : Nat} {C : List (Int × Int)} {K : sd_M} {st : List Int} {o : Bool} (hr : r < 6) (rr : rl_r K r C k) (rs : tx_rs K B n p) (sk : rl_sk K (rl_ow o ++ st)) (hb : rl_b0 st) (hC : C.length < 400) : ∃ L, f_X10_layDown_0 (fu + 2) 1 K = some (0, L) ∧ rl_r L r (C ++ rl_oc o) k ∧ tx_rs L B n p ∧ rl_sk L st ∧ rl_q2 r K L ∧ L 331 8 = K 331 8 := by
  cases o with
  | false =>
    refine ⟨K, rl_ld0 (fu := fu + 1) sk (rl_b0_l hb (by omega)), ?_, rs, sk, rl_q2_rf, rfl⟩
    rw [show rl_oc false = [] from rfl, List.append_nil]
    exact rr
  | true =>
    obtain ⟨L, e, rrL, rsL, skL, fr, e8⟩ := rl_ld1 (fu := fu + 1) (c := 13) (v := 1) (st := st) hr rr rs sk hC (by omega) (by decide)
    exact ⟨L, by rw [e]; exact rl_ld0 skL (rl_b0_l hb (by omega)), rrL, rsL, skL, fr, e8⟩
theorem rl_ldv1 {B : Nat → Int} {n p r k : Nat} {C : List (Int × Int)} {K : sd_M} {st : List Int} {a o : Bool} (hr : r < 6) (rr : rl_r K r C k) (rs : tx_rs K B n p) (sk : rl_sk K (rl_aw a ++ (rl_ow o ++ st))) (hb : rl_b0 st) (hC : C.length + 1 < 400) : ∃ L, f_X10_layDown 1 K = some (0, L) ∧ rl_r L r (C ++ rl_ac a ++ rl_oc o) k ∧ tx_rs L B n p ∧ rl_sk L st ∧ rl_q2 r K L ∧ L 331 8 = K 331 8 := by
  unfold f_X10_layDown
  cases a with
  | false =>
    obtain ⟨L, e, rrL, rsL, skL, fr, e8⟩ := rl_ldo (fu := 3998) hr rr rs sk hb (by omega)
    refine ⟨L, e, ?_, rsL, skL, fr, e8⟩
    rw [show rl_ac false = [] from rfl, List.append_nil]
    exact rrL
  | true =>
    obtain ⟨L, e, rrL, rsL, skL, fr, e8⟩ := rl_ld1 (fu := 3999) (c := 12) (v := 1) (st := rl_ow o ++ st) hr rr rs sk (by omega) (by omega) (by decide)
    obtain ⟨L2, e2, rr2, rs2, sk2, fr2, e82⟩ := rl_ldo (fu := 3997) hr rrL rsL skL hb (by rw [List.length_append]; exact hC)
    exact ⟨L2, by rw [e]; exact e2, rr2, rs2, sk2, rl_q2_tr fr fr2, e82.trans e8⟩
theorem rl_ldv2 {B : Nat → Int} {n p r k : Nat} {C : List (Int × Int)} {K : sd_M} {st : List Int} {a o : Bool} (hr : r < 6) (rr : rl_r K r C k) (rs : tx_rs K B n p) (sk : rl_sk K (rl_aw a ++ (rl_ow o ++ st))) (hb : rl_b0 st) (hC : C.length < 400) : ∃ L, f_X10_layDown 2 K = some (0, L) ∧ rl_r L r (C ++ rl_ac a) k ∧ tx_rs L B n p ∧ rl_sk L (rl_ow o ++ st) ∧ rl_q2 r K L ∧ L 331 8 = K 331 8 := by
  have h2 : rl_ow o ++ st = [] ∨ ∃ c s, rl_ow o ++ st = c :: s ∧ rl_sg c < 2 := by
    cases o with
    | false => exact rl_b0_l hb (by omega)
    | true => exact Or.inr ⟨13, st, rfl, by decide⟩
  unfold f_X10_layDown
  cases a with
  | false =>
    refine ⟨K, rl_ld0 (fu := 3999) sk h2, ?_, rs, sk, rl_q2_rf, rfl⟩
    rw [show rl_ac false = [] from rfl, List.append_nil]
    exact rr
  | true =>
    obtain ⟨L, e, rrL, rsL, skL, fr, e8⟩ := rl_ld1 (fu := 3999) (c := 12) (v := 2) (st := rl_ow o ++ st) hr rr rs sk hC (by omega) (by decide)
    exact ⟨L, by rw [e]; exact rl_ld0 (fu := 3998) skL h2, rrL, rsL, skL, fr, e8⟩
theorem rl_ldv3 {K : sd_M} {st : List Int} {a o : Bool} (sk : rl_sk K (rl_aw a ++ (rl_ow o ++ st))) (hb : rl_b0 st) : f_X10_layDown 3 K = some (0, K) := by
  refine rl_ld0 (fu := 3999) sk ?_
  cases a with
  | true => exact Or.inr ⟨12, rl_ow o ++ st, rfl, by decide⟩
  | false =>
    cases o with
    | false => exact rl_b0_l hb (by omega)
    | true => exact Or.inr ⟨13, st, rfl, by decide⟩
