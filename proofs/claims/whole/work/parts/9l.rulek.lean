/-! runs of the reference's test -/
def rl_Bb (n : Nat) (r4 : Int × sd_M) : Option (Int × sd_M) := (f_X10_isWord 6385252 r4.2).bind fun r5 => if r5.1 = 0 then ((f_X10_isWord 28530 r5.2).bind fun r7 => if r7.1 = 0 then (f_X10_tested_54 (f_X10_tested_12 f_X10_tested_112 n) f_X10_tested_112 0 r7.2) else (f_X10_tested_49 (f_X10_tested_12 f_X10_tested_112 n) f_X10_tested_112 r7.2)) else (f_X10_tested_49 (f_X10_tested_12 f_X10_tested_112 n) f_X10_tested_112 r5.2)
def rl_A (n : Nat) (r2 : Int × sd_M) : Option (Int × sd_M) := if r2.1 = 0 then some (0, r2.2) else (f_X10_closes r2.2).bind (rl_Bb n)
/-- at a fact -/
def rl_F (n fuF : Nat) (K : sd_M) : Option (Int × sd_M) := (f_X10_fact_2 f_X10_fact_75 fuF 1 K).bind (rl_A n)
/-- behind a fact -/
def rl_G (n fuC fuL : Nat) (K : sd_M) : Option (Int × sd_M) := ((f_X10_layDown_0 fuL 3 K).bind fun r1 => f_X10_closes_5 fuC r1.2).bind (rl_Bb n)
theorem rl_F0 {n : Nat} {K : sd_M} : f_X10_tested_12 f_X10_tested_112 (n + 1) 1 K = rl_F n 4000 K := by
  rw [f_X10_tested_12, if_neg (show ¬ (1 : Int) = 0 by decide)]
  rfl
theorem rl_A1 {n : Nat} {K : sd_M} : rl_A n (1, K) = rl_G n 4000 4000 K := by
  unfold rl_A
  rw [if_neg (show ¬ (1 : Int) = 0 by decide)]
  rfl
/-- a not is laid down behind its fact -/
theorem rl_G_not {B : Nat → Int} {n p r k m fuC fuL : Nat} {C : List (Int × Int)} {K : sd_M} {st : List Int} (hr : r < 6) (rr : rl_r K r C k) (rs : tx_rs K B n p) (sk : rl_sk K (11 :: st)) (hC : C.length < 400) : ∃ L, rl_G m fuC (fuL + 1) K = rl_G m fuC fuL L ∧ rl_r L r (C ++ [(14, 0)]) k ∧ tx_rs L B n p ∧ rl_sk L st ∧ rl_q2 r K L := by
  obtain ⟨L, e, rrL, rsL, skL, fr, _⟩ := rl_ld1 (fu := fuL) (c := 11) (v := 3) (st := st) hr rr rs sk hC (by omega) (by decide)
  refine ⟨L, ?_, rrL, rsL, skL, fr⟩
  unfold rl_G
  rw [e]
