/-! a comparison is read alike -/
theorem rl_105 {r : Nat} {K2 : sd_M} {b p o : Int} {k : Nat} {s : Int} (k12 : K2 331 12 = (k : Int)) (hk : k < 60) (hb : b = 60 ∨ b = 61 ∨ b = 62) (ho : o = 0 ∨ o = 1) (hs : s = if o = 1 then (if b = 60 then 8 else if b = 61 then 9 else 10) else (if b = 60 then 7 else if b = 61 then 9 else 11)) : f_X10_compare_105 b p o K2 = (f_X10_sum (sd_s K2 331 12 ((k + 1 : Nat) : Int))).bind fun r1 => if r1.1 = 0 then (some (0, r1.2)) else ((f_X10_puts (ms_gi s) 0 r1.2).bind fun r3 => some (1, r3.2)) := by
  have e : f_X10_makes p K2 = some (1, sd_s K2 331 12 ((k + 1 : Nat) : Int)) := by
    unfold f_X10_makes
    rw [k12, if_neg (show ¬ (k : Int) = 60 by omega), sd_wid (by omega) (by omega)]
    rfl
  have k152 : ∀ (z : Int), (z = 0 ∨ z = 1 ∨ z = 2 ∨ z = 3 ∨ z = 4) → ms_gi s = 6 + z → f_X10_compare_152 z (sd_s K2 331 12 ((k + 1 : Nat) : Int)) = (f_X10_sum (sd_s K2 331 12 ((k + 1 : Nat) : Int))).bind fun r1 => if r1.1 = 0 then (some (0, r1.2)) else ((f_X10_puts (ms_gi s) 0 r1.2).bind fun r3 => some (1, r3.2)) := by
    intro z hz hg
    unfold f_X10_compare_152
    rw [sd_wid (by omega) (by omega), hg]
  unfold f_X10_compare_105
  rw [e, Option.bind_some]
  simp only []
  rw [if_neg (show ¬ (1 : Int) = 0 by decide)]
  rcases ho with h | h
  · rw [h, if_neg (show ¬ (0 : Int) = 1 by decide)] at hs
    rcases hb with q | q | q
    · rw [q, if_pos rfl] at hs
      rw [q, if_pos rfl, h, if_pos rfl]
      exact k152 0 (by omega) (by rw [hs]; decide)
    · rw [q, if_neg (by decide), if_pos rfl] at hs
      rw [q, if_neg (by decide), if_pos rfl]
      exact k152 2 (by omega) (by rw [hs]; decide)
    · rw [q, if_neg (by decide), if_neg (by decide)] at hs
      rw [q, if_neg (by decide), if_neg (by decide), h, if_pos rfl]
      exact k152 4 (by omega) (by rw [hs]; decide)
  · rw [h, if_pos rfl] at hs
    rcases hb with q | q | q
    · rw [q, if_pos rfl] at hs
      rw [q, if_pos rfl, h, if_neg (by decide)]
      exact k152 1 (by omega) (by rw [hs]; decide)
    · rw [q, if_neg (by decide), if_pos rfl] at hs
      rw [q, if_neg (by decide), if_pos rfl]
      exact k152 2 (by omega) (by rw [hs]; decide)
    · rw [q, if_neg (by decide), if_neg (by decide)] at hs
      rw [q, if_neg (by decide), if_neg (by decide), h, if_neg (by decide)]
      exact k152 3 (by omega) (by rw [hs]; decide)
theorem rl_cp {B : Nat → Int} {n R r k p : Nat} {C : List (Int × Int)} (hbb : ∀ j, j < n → -128 ≤ B j ∧ B j < 128) (n4 : n ≤ 400) (hR : 16 ≤ R) (hr : r < 6) (hk : k ≤ 60) (hC : C.length < p) (hp : p ≤ n) : ∃ o : rl_R, rl_p o (fun f => 0 < f) (rl_ok n p k 0 [] true C) ∧ (∀ M : sd_M, tx_cs M B n p → rl_c M R C k → rl_Cl B n R o M (f_X5_readsComparison R M)) ∧ (∀ K : sd_M, tx_rs K B n p → rl_r K r C k → rl_Rf B n r o K (f_X10_compare K)) := by
  obtain ⟨o1, ok1, oc1, or1⟩ := rl_sum (R := R) (r := r) hbb n4 hR hr hk hC hp
  cases o1 with
  | inl f =>
    refine ⟨.inl f, ok1, fun M cs rc => ?_, fun K rs rr => ?_⟩
    · obtain ⟨N, e, n2, fr⟩ := oc1 M cs rc
      refine ⟨N, ?_, n2, fr⟩
      unfold f_X5_readsComparison
      rw [e, Option.bind_some]
      rfl
    · obtain ⟨L, e, l9, fr⟩ := or1 K rs rr
      refine ⟨L, ?_, l9, fr⟩
      unfold f_X10_compare
      rw [e, Option.bind_some]
      rfl
  | inr y =>
    obtain ⟨p1, k1, C1⟩ := y
    obtain ⟨⟨E1, eC1, cd1, t1⟩, ⟨a1, a2, a3⟩, a4, a5⟩ := ok1
    simp only [] at eC1 a1 a2 a3 a4 a5
    have oc1 : ∀ M : sd_M, tx_cs M B n p → rl_c M R C k → ∃ N, f_X5_readsSum R M = some (1, N) ∧ tx_cs N B n p1 ∧ rl_c N R C1 k1 ∧ rl_f R M N := oc1
    have or1 : ∀ K : sd_M, tx_rs K B n p → rl_r K r C k → ∃ L, f_X10_sum K = some (1, L) ∧ tx_rs L B n p1 ∧ rl_r L r C1 k1 ∧ rl_q r K L := or1
    have cm := rl_cmp (B := B) (n := n) (p := p1) hbb
    -- the class, behind the first sum
    have CC : ∀ M : sd_M, tx_cs M B n p → rl_c M R C k → ∃ N, tx_cs N B n p1 ∧ rl_c N R C1 k1 ∧ rl_f R M N ∧ f_X5_readsComparison R M = if rl_so (tx_kd B n p1) < 7 then (f_X5_readsComparison_31 R N) else (if rl_so (tx_kd B n p1) ≤ 11 then (if (N 14 0) < 60 then ((f_X7_step (sd_s N 14 0 (sd_w ((N 14 0) + 1)))).bind fun r8 => (f_X5_readsSum R r8.2).bind fun r9 => if r9.1 = 0 then (some (0, r9.2)) else ((f_X4_add R (rl_so (tx_kd B n p1)) 0 r9.2).bind fun r11 => some (1, r11.2))) else ((f_X7_fails 3 N).bind fun r12 => if r12.1 = 0 ∨ r12.1 = 1 then some (r12.1, r12.2) else none)) else (f_X5_readsComparison_31 R N)) := by
      intro M cs rc
      obtain ⟨N, e, csN, rcN, fr⟩ := oc1 M cs rc
      refine ⟨N, csN, rcN, fr, ?_⟩
      unfold f_X5_readsComparison
      rw [e, Option.bind_some]
      simp only []
      rw [if_neg (show ¬ (1 : Int) = 0 by decide), tx_kind csN, Option.bind_some]
      simp only []
      rw [rl_so_e, Option.bind_some]
    have RR : ∀ K : sd_M, tx_rs K B n p → rl_r K r C k → ∃ L, tx_rs L B n p1 ∧ rl_r L r C1 k1 ∧ rl_q r K L ∧ f_X10_compare K = if (if p1 < n then tx_ub (B p1) else -1) = 60 ∨ (if p1 < n then tx_ub (B p1) else -1) = 61 ∨ (if p1 < n then tx_ub (B p1) else -1) = 62 then f_X10_compare_44 (if p1 < n then tx_ub (B p1) else -1) (p1 : Int) (sd_s L 331 8 (p1 : Int)) else ((f_X10_fails 0 (p1 : Int) (sd_s L 331 8 (p1 : Int))).bind fun r7 => if r7.1 = 0 ∨ r7.1 = 1 then some (r7.1, r7.2) else none) := by
      intro K rs rr
      obtain ⟨L, e, rsL, rrL, fr⟩ := or1 K rs rr
      refine ⟨L, rsL, rrL, fr, ?_⟩
      unfold f_X10_compare
      rw [e, Option.bind_some]
      simp only []
      rw [if_neg (show ¬ (1 : Int) = 0 by decide), tx_see rsL, Option.bind_some]
      simp only []
      rw [show sd_s L 331 8 (p1 : Int) 331 8 = (p1 : Int) from sd_s_at]
      generalize (if p1 < n then tx_ub (B p1) else -1) = c
      by_cases b1 : c = 60
      · rw [if_pos b1, if_pos (Or.inl b1)]
      rw [if_neg b1]
      by_cases b2 : c = 61
      · rw [if_pos b2, if_pos (Or.inr (Or.inl b2))]
      rw [if_neg b2]
      by_cases b3 : c = 62
      · rw [if_pos b3, if_pos (Or.inr (Or.inr b3))]
      rw [if_neg b3, if_neg (by omega)]
    have u := tx_ub_c (B p1)
    by_cases c : p1 < n ∧ (B p1 = 60 ∨ B p1 = 61 ∨ B p1 = 62)
    · sorry
    · have lo := cm.1 c
      have f1 : 0 < sl_f p1 0 := by unfold sl_f; omega
      refine ⟨.inl (sl_f p1 0), f1, fun M cs rc => ?_, fun K rs rr => ?_⟩
      · obtain ⟨N, csN, rcN, fr, e⟩ := CC M cs rc
        obtain ⟨N2, e2, n2, fr2⟩ := rl_f0 hR csN (w := 0) (by omega)
        refine ⟨N2, ?_, n2, rl_f_tr fr fr2⟩
        rw [e, if_pos lo]
        exact e2
      · obtain ⟨L, rsL, rrL, fr, e⟩ := RR K rs rr
        obtain ⟨b1, b2, b3⟩ := rl_see8 rrL rsL
        have nc : ¬ ((if p1 < n then tx_ub (B p1) else -1) = 60 ∨ (if p1 < n then tx_ub (B p1) else -1) = 61 ∨ (if p1 < n then tx_ub (B p1) else -1) = 62) := by
          by_cases pn : p1 < n
          · have ub := hbb p1 pn
            rw [if_pos pn]
            omega
          · rw [if_neg pn]
            omega
        rw [e, if_neg nc]
        exact rl_rf0 (rl_q_tr fr b3) b2.1.2.2 (by omega) (w := 0) (by omega) rfl
