/-! inside of brackets; what opens -/
theorem rl_kr_i {row : Nat → Int} : ∀ st : List Int, rl_kr row st → ((∃ j, j < st.length ∧ row j = 91) ↔ 91 ∈ st)
  | [], _ => ⟨fun h => by
    obtain ⟨j, h1, _⟩ := h
    exact absurd h1 (Nat.not_lt_zero _), fun h => absurd h (by simp)⟩
  | c :: st, h => by
    have q := rl_kr_i st h.2
    rw [List.mem_cons, ← q]
    constructor
    · rintro ⟨j, h1, h2⟩
      rw [List.length_cons] at h1
      by_cases c1 : j = st.length
      · rw [c1, h.1] at h2
        exact Or.inl h2.symm
      · exact Or.inr ⟨j, by omega, h2⟩
    · rintro (h1 | ⟨j, h1, h2⟩)
      · exact ⟨st.length, by rw [List.length_cons]; omega, by rw [h.1, h1]⟩
      · exact ⟨j, by rw [List.length_cons]; omega, h2⟩
theorem rl_in_l {K : sd_M} {l : Nat} (h : K 331 16 = (l : Int)) (l4 : l ≤ 400) : ∀ (m i fu : Nat), i + m = l → m < fu → (∃ j, i ≤ j ∧ j < l ∧ K 338 j = 91) ∧ f_X10_isInside_2 fu (i : Int) K = some (1, K) ∨ (¬ ∃ j, i ≤ j ∧ j < l ∧ K 338 j = 91) ∧ f_X10_isInside_2 fu (i : Int) K = some (0, K) := by
  intro m
  induction m with
  | zero =>
    intro i fu hi hf
    obtain ⟨fu, rfl⟩ : ∃ g, fu = g + 1 := ⟨fu - 1, by omega⟩
    refine Or.inr ⟨fun w => ?_, by rw [f_X10_isInside_2, h, if_pos (by omega)]⟩
    obtain ⟨j, a, b, _⟩ := w
    omega
  | succ m ih =>
    intro i fu hi hf
    obtain ⟨fu, rfl⟩ : ∃ g, fu = g + 1 := ⟨fu - 1, by omega⟩
    rw [f_X10_isInside_2, h, if_neg (by omega), if_pos (by omega), Int.toNat_natCast]
    by_cases c : K 338 i = 91
    · rw [if_pos c]
      exact Or.inl ⟨⟨i, Nat.le_refl _, by omega, c⟩, rfl⟩
    · rw [if_neg c, sd_wid (by omega) (by omega)]
      rcases ih (i + 1) fu (by omega) (by omega) with ⟨w, e⟩ | ⟨w, e⟩
      · obtain ⟨j, a, b, d⟩ := w
        exact Or.inl ⟨⟨j, by omega, b, d⟩, e⟩
      · refine Or.inr ⟨fun w2 => w ?_, e⟩
        obtain ⟨j, a, b, d⟩ := w2
        by_cases ji : j = i
        · rw [ji] at d
          exact absurd d c
        · exact ⟨j, by omega, b, d⟩
theorem rl_inside {K : sd_M} {st : List Int} (sk : rl_sk K st) : f_X10_isInside K = some (if 91 ∈ st then 1 else 0, K) := by
  obtain ⟨s1, s2, s4, s5⟩ := sk
  have q := rl_kr_i st s2
  unfold f_X10_isInside
  rcases rl_in_l s1 s5 st.length 0 4000 (by omega) (by omega) with ⟨w, e⟩ | ⟨w, e⟩
  · obtain ⟨j, _, a, b⟩ := w
    rw [if_pos (q.mp ⟨j, a, b⟩)]
    exact e
  · rw [if_neg (fun m => w (by
      obtain ⟨j, a, b⟩ := q.mpr m
      exact ⟨j, Nat.zero_le _, a, b⟩))]
    exact e
theorem rl_kr_c {row row2 : Nat → Int} : ∀ st : List Int, rl_kr row st → (∀ j, j < st.length → row2 j = row j) → rl_kr row2 st
  | [], _, _ => trivial
  | c :: st, h, e => by
    refine ⟨?_, rl_kr_c st h.2 (fun j hj => e j (by rw [List.length_cons]; omega))⟩
    rw [e st.length (by rw [List.length_cons]; omega)]
    exact h.1
/-- one more lies open -/
theorem rl_push {r : Nat} {K : sd_M} {st : List Int} {w : Int} (hw : w = 11 ∨ w = 91) (sk : rl_sk K st) (hl : st.length < 400) : (rl_dp st = 10 → f_X10_opens w K = ((f_X10_fails 2 (K 331 8) K).bind fun r3 => if r3.1 = 0 ∨ r3.1 = 1 then some (r3.1, r3.2) else none)) ∧ (rl_dp st ≠ 10 → ∃ L, f_X10_opens w K = some (1, L) ∧ rl_sk L (w :: st) ∧ rl_q2 r K L ∧ (∀ j, j ≠ 13 → j ≠ 16 → L 331 j = K 331 j) ∧ ∀ a, a ≠ 331 → a ≠ 338 → L a = K a) := by
  obtain ⟨s1, s2, s4, s5⟩ := sk
  have dpb : ∀ s : List Int, rl_dp s ≤ s.length := by
    intro s
    induction s with
    | nil => exact Nat.le_refl _
    | cons d s ih =>
      rw [rl_dp, List.length_cons]
      split <;> omega
  have db := dpb st
  unfold f_X10_opens
  rw [s4]
  constructor
  · intro h
    rw [if_pos (by omega)]
  · intro h
    have e13 : sd_w ((rl_dp st : Int) + 1) = ((rl_dp st + 1 : Nat) : Int) := by
      rw [sd_wid (by omega) (by omega)]
      rfl
    have e16 : sd_s K 331 13 ((rl_dp st + 1 : Nat) : Int) 331 16 = (st.length : Int) := by rw [sd_s_j (by omega), s1]
    rw [if_neg (by omega), e13, e16, if_pos (by omega), Int.toNat_natCast, sd_s_a (show (331 : Nat) ≠ 338 by omega), e16, sd_wid (by omega) (by omega)]
    refine ⟨_, rfl, ⟨?_, ⟨?_, ?_⟩, ?_, ?_⟩, ⟨fun a x _ _ z => ?_, fun j _ _ _ _ x y => ?_, fun i _ => ?_⟩, fun j x y => ?_, fun a x y => ?_⟩
    · rw [sd_s_at, List.length_cons]
      rfl
    · rw [sd_s_a (by omega), sd_s_at]
    · refine rl_kr_c st s2 (fun j hj => ?_)
      rw [sd_s_a (by omega), sd_s_j (by omega), sd_s_a (by omega)]
    · rw [sd_s_j (by omega), sd_s_a (by omega), sd_s_at, rl_dp, if_pos (by omega)]
    · rw [List.length_cons]
      omega
    · rw [sd_s_a x, sd_s_a z, sd_s_a x]
    · rw [sd_s_j y, sd_s_a (by omega), sd_s_j x]
    · rw [sd_s_a (by omega), sd_s_a (by omega), sd_s_a (by omega)]
    · rw [sd_s_j y, sd_s_a (by omega), sd_s_j x]
    · rw [sd_s_a x, sd_s_a y, sd_s_a x]
