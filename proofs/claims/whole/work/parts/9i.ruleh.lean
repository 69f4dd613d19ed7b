/-! the reference's open stack -/
def rl_sg (c : Int) : Int := if c = 13 then 1 else if c = 12 then 2 else if c = 11 then 3 else 0
def rl_cc (c : Int) : Int := if c = 11 then 14 else c
def rl_dp : List Int → Nat
  | [] => 0
  | c :: st => rl_dp st + if c = 11 ∨ c = 91 then 1 else 0
def rl_kr (row : Nat → Int) : List Int → Prop
  | [] => True
  | c :: st => row st.length = c ∧ rl_kr row st
/-- the stack, its top first -/
def rl_sk (K : sd_M) (st : List Int) : Prop := K 331 16 = (st.length : Int) ∧ rl_kr (K 338) st ∧ K 331 13 = (rl_dp st : Int) ∧ st.length ≤ 400
def rl_q2 (r : Nat) (K L : sd_M) : Prop := (∀ a, a ≠ 331 → a ≠ 333 → a ≠ 334 → a ≠ 338 → L a = K a) ∧ (∀ j, j ≠ 8 → j ≠ 9 → j ≠ 10 → j ≠ 12 → j ≠ 13 → j ≠ 16 → L 331 j = K 331 j) ∧ ∀ i, i < 400 * r → L 333 i = K 333 i
theorem rl_q2_tr {r : Nat} {M N K : sd_M} (h : rl_q2 r M N) (g : rl_q2 r N K) : rl_q2 r M K := ⟨fun a x y z w => (g.1 a x y z w).trans (h.1 a x y z w), fun j a b c d e f => (g.2.1 j a b c d e f).trans (h.2.1 j a b c d e f), fun i hi => (g.2.2 i hi).trans (h.2.2 i hi)⟩
theorem rl_q2_q {r : Nat} {K L : sd_M} (h : rl_q r K L) : rl_q2 r K L := ⟨fun a x y z _ => h.1 a x y z, fun j a b c d _ _ => h.2.1 j a b c d, h.2.2⟩
theorem rl_q2_s {r i : Nat} {M : sd_M} {v : Int} (h : i = 8 ∨ i = 9 ∨ i = 10 ∨ i = 12 ∨ i = 13 ∨ i = 16) : rl_q2 r M (sd_s M 331 i v) := ⟨fun a x _ _ _ => sd_s_a x, fun j _ _ _ _ _ _ => sd_s_j (by omega), fun i _ => by rw [sd_s_a (by omega)]⟩
theorem rl_sk_q {r : Nat} {K L : sd_M} {st : List Int} (h : rl_sk K st) (q : rl_q r K L) : rl_sk L st := by
  unfold rl_sk
  rw [q.2.1 16 (by omega) (by omega) (by omega) (by omega), q.2.1 13 (by omega) (by omega) (by omega) (by omega), q.1 338 (by omega) (by omega) (by omega)]
  exact h
/-- one is laid down -/
theorem rl_ld1 {B : Nat → Int} {n p r k fu : Nat} {C : List (Int × Int)} {K : sd_M} {c v : Int} {st : List Int} (hr : r < 6) (rr : rl_r K r C k) (rs : tx_rs K B n p) (sk : rl_sk K (c :: st)) (hC : C.length < 400) (hc : c = 11 ∨ c = 12 ∨ c = 13) (hv : v ≤ rl_sg c) : ∃ L, f_X10_layDown_0 (fu + 1) v K = f_X10_layDown_0 fu v L ∧ rl_r L r (C ++ [(rl_cc c, 0)]) k ∧ tx_rs L B n p ∧ rl_sk L st ∧ rl_q2 r K L ∧ L 331 8 = K 331 8 := by
  obtain ⟨s1, ⟨s2, s3⟩, s4, s5⟩ := sk
  rw [List.length_cons] at s1 s5
  have e1 : sd_w (K 331 16 - 1) = (st.length : Int) := by
    rw [s1, sd_wid (by omega) (by omega)]
    omega
  have es : f_X10_strength c K = some (rl_sg c, K) := by
    unfold f_X10_strength rl_sg
    rcases hc with h | h | h <;> rw [h] <;> rfl
  have k16 : ¬ K 331 16 ≤ 0 := by
    rw [s1]
    omega
  obtain ⟨K1, hK1⟩ : ∃ K1, K1 = sd_s K 331 16 (st.length : Int) := ⟨_, rfl⟩
  have q16 : K1 331 16 = (st.length : Int) := by rw [hK1, sd_s_at]
  have q338 : K1 338 = K 338 := by rw [hK1, sd_s_a (by omega)]
  have rr1 : rl_r K1 r C k := by
    rw [hK1]
    exact rl_r_c rr (sd_s_j (by omega)) (by rw [sd_s_j (by omega)]; exact rr.1.2.1) (by rw [sd_s_j (by omega)]; exact rr.1.2.2) (sd_s_a (by omega)) (sd_s_a (by omega))
  have rs1 : tx_rs K1 B n p := hK1 ▸ tx_rs_c rs (sd_s_j (by omega)) (sd_s_j (by omega)) (sd_s_a (by omega))
  have q13 : K1 331 13 = ((rl_dp (c :: st) : Nat) : Int) := by rw [hK1, sd_s_j (by omega), s4]
  have fr1 : rl_q2 r K K1 := hK1 ▸ rl_q2_s (by omega)
  obtain ⟨L, eL, rrL, frL, l331⟩ := rl_puts hr rr1 hC (s := rl_cc c) (v := 0) (g := c) (by unfold rl_cc; split <;> omega) (by rcases hc with h | h | h <;> rw [h] <;> decide) (by omega)
  have rsL : tx_rs L B n p := tx_rs_c rs1 (by rw [l331]) (by rw [l331]) (frL.1 332 (by omega) (by omega) (by omega))
  have l338 : L 338 = K 338 := by rw [frL.1 338 (by omega) (by omega) (by omega), q338]
  have l16 : L 331 16 = (st.length : Int) := by rw [l331, q16]
  have l13 : L 331 13 = ((rl_dp (c :: st) : Nat) : Int) := by rw [l331, q13]
  have l8 : L 331 8 = K 331 8 := by rw [l331, hK1, sd_s_j (by omega)]
  have dp : rl_dp (c :: st) = rl_dp st + if c = 11 ∨ c = 91 then 1 else 0 := rfl
  have dpb : ∀ s : List Int, rl_dp s ≤ s.length := by
    intro s
    induction s with
    | nil => exact Nat.le_refl _
    | cons d s ih =>
      rw [rl_dp, List.length_cons]
      split <;> omega
  have db := dpb st
  have run : f_X10_layDown_0 (fu + 1) v K = if c = 11 then f_X10_layDown_0 fu v (sd_s L 331 13 (sd_w ((L 331 13) - 1))) else f_X10_layDown_0 fu v L := by
    rw [f_X10_layDown_0, if_neg k16, e1, if_pos (by omega), Int.toNat_natCast, s2, es, Option.bind_some]
    simp only []
    rw [if_neg (by omega), e1, ← hK1, q16, if_pos (by omega), Int.toNat_natCast, q338, s2, eL, Option.bind_some]
    simp only []
    rw [l16, if_pos (by omega), Int.toNat_natCast, l338, s2]
  rw [run]
  by_cases c11 : c = 11
  · rw [if_pos c11]
    rw [if_pos (Or.inl c11)] at dp
    refine ⟨_, rfl, rl_r_c rrL (sd_s_j (by omega)) (by rw [sd_s_j (by omega)]; exact rrL.1.2.1) (by rw [sd_s_j (by omega)]; exact rrL.1.2.2) (sd_s_a (by omega)) (sd_s_a (by omega)), tx_rs_c rsL (sd_s_j (by omega)) (sd_s_j (by omega)) (sd_s_a (by omega)), ⟨?_, ?_, ?_, by omega⟩, rl_q2_tr fr1 (rl_q2_tr (rl_q2_q frL) (rl_q2_s (by omega))), by rw [sd_s_j (by omega), l8]⟩
    · rw [sd_s_j (by omega), l16]
    · rw [sd_s_a (by omega), l338]
      exact s3
    · rw [sd_s_at, l13, dp, sd_wid (by omega) (by omega)]
      omega
  · rw [if_neg c11]
    rw [if_neg (by omega)] at dp
    exact ⟨L, rfl, rrL, rsL, ⟨l16, by rw [l338]; exact s3, by rw [l13, dp]; rfl, by omega⟩, rl_q2_tr fr1 (rl_q2_q frL), l8⟩
/-- or none -/
theorem rl_ld0 {K : sd_M} {v : Int} {fu : Nat} {st : List Int} (sk : rl_sk K st) (h : st = [] ∨ ∃ c s, st = c :: s ∧ rl_sg c < v) : f_X10_layDown_0 (fu + 1) v K = some (0, K) := by
  obtain ⟨s1, s2, s4, s5⟩ := sk
  rw [f_X10_layDown_0]
  rcases h with h | ⟨c, s, h, hv⟩
  · rw [h] at s1
    rw [if_pos (by rw [s1]; decide)]
  · rw [h] at s1 s2 s5
    rw [List.length_cons] at s1 s5
    have e1 : sd_w (K 331 16 - 1) = (s.length : Int) := by
      rw [s1, sd_wid (by omega) (by omega)]
      omega
    have es : f_X10_strength c K = some (rl_sg c, K) := by
      unfold f_X10_strength rl_sg
      by_cases a : c = 13
      · rw [if_pos a, if_pos a]
      rw [if_neg a, if_neg a]
      by_cases b : c = 12
      · rw [if_pos b, if_pos b]
      rw [if_neg b, if_neg b]
      by_cases d : c = 11
      · rw [if_pos d, if_pos d]
      rw [if_neg d, if_neg d]
    have k16 : ¬ K 331 16 ≤ 0 := by
      rw [s1]
      omega
    rw [if_neg k16, e1, if_pos (by omega), Int.toNat_natCast, s2.1, es, Option.bind_some]
    simp only []
    rw [if_pos hv]
