/-! comparisons, alike -/
theorem rl_sum {B : Nat → Int} {n R r k p : Nat} {C : List (Int × Int)} (hbb : ∀ j, j < n → -128 ≤ B j ∧ B j < 128) (n4 : n ≤ 400) (hR : 16 ≤ R) (hr : r < 6) (hk : k ≤ 60) (hC : C.length < p) (hp : p ≤ n) : ∃ o : rl_R, rl_p o (fun f => 0 < f) (rl_ok n p k 0 [] false C) ∧ (∀ M : sd_M, tx_cs M B n p → rl_c M R C k → rl_Cl B n R o M (f_X5_readsSum R M)) ∧ (∀ K : sd_M, tx_rs K B n p → rl_r K r C k → rl_Rf B n r o K (f_X10_sum K)) := by
  obtain ⟨o, h1, h2, h3⟩ := rl_sum_l (R := R) (r := r) hbb n4 hR hr (60 - k) k (-1) (-1) p C (by omega) (Or.inl rfl) (Or.inl rfl) (by rw [show rl_pd (-1) (-1) = 0 from rfl]; omega) hp
  exact ⟨o, h1, fun M cs rc => h2 M 4000 0 (by omega) (by omega) cs rc, fun K rs rr => h3 K 4000 4000 (by omega) (by omega) rs rr⟩
/-- the signs that compare -/
theorem rl_cmp {B : Nat → Int} {n p : Nat} (hbb : ∀ j, j < n → -128 ≤ B j ∧ B j < 128) : (¬ (p < n ∧ (B p = 60 ∨ B p = 61 ∨ B p = 62)) → rl_so (tx_kd B n p) < 7) ∧ (p < n → (B p = 60 ∨ B p = 61 ∨ B p = 62) → tx_oq B n p = true → rl_so (tx_kd B n p) = (if B p = 60 then 8 else 10) ∧ tx_nx B n p = tx_s B n (p + 2) ∧ p + 1 < n ∧ B (p + 1) = 61 ∧ B p ≠ 61) ∧ (p < n → (B p = 60 ∨ B p = 61 ∨ B p = 62) → tx_oq B n p = false → rl_so (tx_kd B n p) = (if B p = 60 then 7 else if B p = 61 then 9 else 11) ∧ tx_nx B n p = tx_s B n (p + 1) ∧ (B p = 61 ∨ ¬ p + 1 < n ∨ B (p + 1) ≠ 61)) := by
  have u := tx_ub_c (B p)
  have dl : p < n → (B p = 60 ∨ B p = 61 ∨ B p = 62) → tx_d B n p = 0 ∧ tx_l B n p = 0 := by
    intro pn hB
    unfold tx_d tx_l
    rw [show n - p = (n - p - 1) + 1 by omega, tx_run, tx_run, if_neg (by omega), if_neg (by omega)]
    exact ⟨rfl, rfl⟩
  refine ⟨fun h => ?_, fun pn hB o => ?_, fun pn hB o => ?_⟩
  · have k : ∀ c : Int, (c = 60 ∨ c = 61 ∨ c = 62 ∨ c = 316 ∨ c = 318) → tx_kd B n p ≠ c := by
      intro c hc
      unfold tx_kd
      by_cases c1 : n ≤ p
      · rw [if_pos c1]
        omega
      have ub := hbb p (by omega)
      rw [if_neg c1]
      split
      · omega
      · split
        · omega
        · split <;> omega
    unfold rl_so
    have k1 := k 60 (by omega)
    have k2 := k 61 (by omega)
    have k3 := k 62 (by omega)
    have k4 := k 316 (by omega)
    have k5 := k 318 (by omega)
    rw [if_neg k1, if_neg k2, if_neg k3, if_neg k4, if_neg k5]
    repeat' split
    all_goals omega
  · obtain ⟨d0, l0⟩ := dl pn hB
    have o2 := o
    unfold tx_oq at o2
    rw [Bool.and_eq_true, Bool.and_eq_true, Bool.or_eq_true] at o2
    have o3 := of_decide_eq_true o2.1.2
    have o4 := of_decide_eq_true o2.2
    have o5 : B p = 60 ∨ B p = 62 := by
      rcases o2.1.1 with q | q
      · exact Or.inl (of_decide_eq_true q)
      · exact Or.inr (of_decide_eq_true q)
    have kd : tx_kd B n p = B p + 256 := by
      unfold tx_kd
      rw [if_neg (by omega), d0, if_neg (by omega), l0, if_neg (by omega), if_pos o]
      omega
    refine ⟨?_, ?_, o3, o4, by omega⟩
    · rw [kd]
      rcases o5 with q | q
      · rw [q]
        decide
      · rw [q]
        decide
    · unfold tx_nx tx_len
      rw [if_neg (by omega), d0, if_neg (by omega), l0, if_neg (by omega), if_pos o]
  · obtain ⟨d0, l0⟩ := dl pn hB
    have kd : tx_kd B n p = B p := by
      unfold tx_kd
      rw [if_neg (by omega), d0, if_neg (by omega), l0, if_neg (by omega), o, if_neg (by decide)]
      omega
    refine ⟨?_, ?_, ?_⟩
    · rw [kd]
      rcases hB with q | q | q
      · rw [q]
        decide
      · rw [q]
        decide
      · rw [q]
        decide
    · unfold tx_nx tx_len
      rw [if_neg (by omega), d0, if_neg (by omega), l0, if_neg (by omega), o, if_neg (by decide)]
    · by_cases c1 : B p = 61
      · exact Or.inl c1
      by_cases c2 : p + 1 < n
      · refine Or.inr (Or.inr (fun c3 => ?_))
        unfold tx_oq at o
        rw [decide_eq_true c2, decide_eq_true c3, Bool.and_true, Bool.and_true] at o
        rcases hB with q | q | q
        · rw [decide_eq_true q, Bool.true_or] at o
          exact absurd o (by decide)
        · exact c1 q
        · rw [decide_eq_true q, Bool.or_true] at o
          exact absurd o (by decide)
      · exact Or.inr (Or.inl c2)
/-- the reference steps over what compares -/
theorem rl_c44 {B : Nat → Int} {n p r k : Nat} {C : List (Int × Int)} {L : sd_M} (rr : rl_r L r C k) (rs : tx_rs L B n p) (pn : p < n) (hB : B p = 60 ∨ B p = 61 ∨ B p = 62) : ∃ L2, f_X10_compare_44 (B p) (p : Int) (sd_s L 331 8 (p : Int)) = f_X10_compare_105 (B p) (p : Int) (if tx_oq B n p = true then 1 else 0) L2 ∧ tx_rs L2 B n (tx_nx B n p) ∧ rl_r L2 r C k ∧ rl_q r L L2 := by
  have hbb : ∀ j, j < n → -128 ≤ B j ∧ B j < 128 := fun j hj => (rs.1.2.2 j hj).2
  have n4 := rs.1.2.1
  have q := rl_cmp (B := B) (n := n) (p := p) hbb
  have q8 : sd_s L 331 8 (p : Int) 331 8 = (p : Int) := sd_s_at
  have s1 : sd_s (sd_s L 331 8 (p : Int)) 331 8 (sd_w ((sd_s L 331 8 (p : Int) 331 8) + 1)) = sd_s L 331 8 ((p + 1 : Nat) : Int) := by
    rw [q8, sd_s_ss, sd_wid (by omega) (by omega)]
    rfl
  have z8 : sd_s L 331 8 ((p + 1 : Nat) : Int) 331 8 = ((p + 1 : Nat) : Int) := sd_s_at
  have z1 : sd_s L 331 8 ((p + 1 : Nat) : Int) 331 1 = (n : Int) := by rw [sd_s_j (by omega), rs.1.1]
  unfold f_X10_compare_44
  rw [s1, z1, z8]
  cases o : tx_oq B n p with
  | true =>
    obtain ⟨_, nx, a1, a2, a3⟩ := q.2.1 pn hB o
    have e2 : (sd_s L 331 8 ((p + 1 : Nat) : Int)) 332 (p + 1) = 61 := by rw [sd_s_a (by omega), (rs.1.2.2 (p + 1) a1).1, a2]
    rw [if_neg a3, if_neg (by omega), if_pos (by omega), Int.toNat_natCast, e2, if_pos rfl]
    refine ⟨sd_s L 331 8 ((p + 2 : Nat) : Int), ?_, ?_, rl_r_c rr (sd_s_j (by omega)) (by rw [sd_s_j (by omega)]; exact rr.1.2.1) (by rw [sd_s_j (by omega)]; exact rr.1.2.2) (sd_s_a (by omega)) (sd_s_a (by omega)), rl_q_s (by omega)⟩
    · unfold f_X10_compare_90
      rw [if_neg (show ¬ (1 : Int) = 0 by decide), z8, sd_s_ss, sd_wid (by omega) (by omega), if_pos rfl]
      rfl
    · rw [nx]
      exact tx_rs_n rs.1 (by omega)
  | false =>
    obtain ⟨_, nx, a1⟩ := q.2.2 pn hB o
    refine ⟨sd_s L 331 8 ((p + 1 : Nat) : Int), ?_, ?_, rl_r_c rr (sd_s_j (by omega)) (by rw [sd_s_j (by omega)]; exact rr.1.2.1) (by rw [sd_s_j (by omega)]; exact rr.1.2.2) (sd_s_a (by omega)) (sd_s_a (by omega)), rl_q_s (by omega)⟩
    · have e89 : f_X10_compare_89 (B p) (p : Int) (sd_s L 331 8 ((p + 1 : Nat) : Int)) = f_X10_compare_105 (B p) (p : Int) 0 (sd_s L 331 8 ((p + 1 : Nat) : Int)) := by
        unfold f_X10_compare_89 f_X10_compare_90
        rw [if_pos rfl]
      rw [if_neg (show ¬ false = true by decide)]
      by_cases b1 : B p = 61
      · rw [if_pos b1]
        exact e89
      rw [if_neg b1]
      by_cases b2 : p + 1 < n
      · have e2 : (sd_s L 331 8 ((p + 1 : Nat) : Int)) 332 (p + 1) = B (p + 1) := by rw [sd_s_a (by omega), (rs.1.2.2 (p + 1) b2).1]
        rw [if_neg (by omega), if_pos (by omega), Int.toNat_natCast, e2, if_neg (by omega)]
        exact e89
      · rw [if_pos (by omega)]
        exact e89
    · rw [nx]
      exact tx_rs_n rs.1 (by omega)
theorem rl_t_cmp {s : Int} (hs : 7 ≤ s ∧ s ≤ 11) (t : List Bool) : ms_t1 s 0 (false :: false :: t) = some (true :: t) := by
  unfold ms_t1
  rw [if_neg (by omega), if_neg (by omega), if_neg (by omega), if_neg (by omega), if_pos (by omega)]
