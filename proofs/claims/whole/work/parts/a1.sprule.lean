/-! the rule is taken -/
/-- rules told before -/
theorem iv_r_o {M N : sd_M} {r : Nat} (h : iv_r M) (hr : M 331 2 = (r : Int)) (e : ∀ a, 16 ≤ a → a < 16 + 7 * r → N a = M a) (e3 : ∀ i, i < 400 * r → N 333 i = M 333 i) (e5 : ∀ i, i < 48 * r → N 335 i = M 335 i) (e6 : ∀ i, i ≠ r → N 336 i = M 336 i) : ∀ s : Nat, s < r → ∃ (n mm : Nat) (P V A B D : Nat → Int), rf_cd N s n P V ∧ rf_cl N s n mm P V A B D ∧ cl_rl N (16 + 7 * s) mm P V A B D := by
  intro s hs
  obtain ⟨n, mm, P, V, A, B, D, h1, h2, h3⟩ := h.2 s (by omega)
  refine ⟨n, mm, P, V, A, B, D, ⟨h1.1, fun i hi => ?_⟩, ⟨⟨h2.1.1, by rw [e6 s (by omega)]; exact h2.1.2⟩, fun c hc => ?_⟩, ?_⟩
  · have n4 := h1.1
    rw [e3 _ (by omega)]
    exact h1.2 i hi
  · have m12 := h2.1.1
    rw [e5 _ (by omega), e5 _ (by omega), e5 _ (by omega), e5 _ (by omega)]
    exact h2.2 c hc
  · obtain ⟨q0, q1, q2, q3, q4, q5⟩ := h3
    exact ⟨by rw [e _ (by omega) (by omega)]; exact q0, by rw [e _ (by omega) (by omega)]; exact q1, by rw [e _ (by omega) (by omega)]; exact q2, by rw [e _ (by omega) (by omega)]; exact q3, by rw [e _ (by omega) (by omega)]; exact q4, by rw [e _ (by omega) (by omega)]; exact q5⟩
/-- the new one -/
theorem iv_r_n {N : sd_M} {R r n k : Nat} {C : List (Int × Int)} {Q : List (Nat × Nat × Nat)} (n4 : n ≤ 400) (og : rl_og n (.inr (k, Q, C))) (rc : rl_c N R C k) (cq : rl_cq N R Q) (rr : rl_r N r C k) (rq : rl_rq N r Q) : ∃ (n mm : Nat) (P V A B D : Nat → Int), rf_cd N r n P V ∧ rf_cl N r n mm P V A B D ∧ cl_rl N R mm P V A B D := by
  obtain ⟨o1, o2, o3, o4⟩ := og
  simp only [] at o1 o2 o3 o4
  refine ⟨C.length, Q.length, N (R + 4), N (R + 5), N (R + 1), N (R + 2), N (R + 3), ⟨by omega, fun i hi => ?_⟩, ⟨⟨o1, rq.2.1⟩, fun c hc => ?_⟩, ⟨cq.1, rfl, rfl, rfl, rfl, rfl⟩⟩
  · obtain ⟨g1, g2⟩ := rc.2.1 i hi
    have m : rl_g C i ∈ C := by
      unfold rl_g
      rw [List.getD_eq_getElem?_getD, List.getElem?_eq_getElem hi]
      exact List.getElem_mem hi
    rw [g1, g2]
    exact ⟨rr.2.2 i hi, o3 _ m⟩
  · obtain ⟨c1, c2, c3⟩ := cq.2 c hc
    obtain ⟨x1, x2, x3, x4⟩ := rq.2.2 c hc
    obtain ⟨⟨⟨k1, k2⟩, k3⟩, ⟨k4, k5⟩, k6⟩ := o4 c hc
    rw [c1, c2, c3]
    have tr : ∀ (m i : Nat), i + m ≤ C.length → ms_tr (N (R + 4)) (N (R + 5)) m i [] = ms_tr (fun i => (rl_g C i).1) (fun i => (rl_g C i).2) m i [] := fun m i h => rl_trc m i [] (fun j a b => rc.2.1 j (by omega))
    refine ⟨by omega, ⟨x1, x2, x3, x4⟩, ?_, ?_⟩
    · rw [Int.toNat_natCast, Int.toNat_natCast, tr _ _ (by omega)]
      exact k3
    · rcases k6 with q | ⟨⟨q1, q2⟩, q3⟩
      · exact Or.inl (by rw [q])
      · refine Or.inr ?_
        rw [Int.toNat_natCast, Int.toNat_natCast, tr _ _ (by omega)]
        exact q3
/-- the reference begins -/
theorem rl_ref {M : sd_M} {B : Nat → Int} {n r : Nat} (hb : tx_rb M B n) (h2 : M 331 2 = (r : Int)) (hr : r < 6) : ∃ K, f_X10_rule M = (((f_X10_clauseHere K).bind fun r2 => f_X10_readsAll_35 f_X10_readsAll_66 4000 r2.1 r2.2).bind fun r3 => if r3.1 = 0 then (some (sd_w (((-2)) - (r3.2 331 9)), r3.2)) else (some (sd_w ((sd_s r3.2 331 2 (sd_w ((r3.2 331 2) + 1)) 331 2) - 1), sd_s r3.2 331 2 (sd_w ((r3.2 331 2) + 1))))) ∧ tx_rs K B n (tx_s B n 0) ∧ rl_r K r [] 0 ∧ rl_rq K r [] ∧ rl_q3 r (sd_s M 331 11 (r : Int)) K := by
  obtain ⟨K0, hK0⟩ : ∃ K0, K0 = sd_s (sd_s M 331 11 (r : Int)) 336 r 0 := ⟨_, rfl⟩
  have k11 : K0 331 11 = (r : Int) := by rw [hK0, sd_s_a (by omega), sd_s_at]
  refine ⟨sd_s (sd_s (sd_s (sd_s (sd_s K0 334 r 0) 331 14 0) 331 8 0) 331 9 0) 331 12 0, ?_, ⟨tx_rb_c hb ?_ ?_, 0, ?_, Nat.zero_le _, rfl⟩, ⟨⟨?_, ?_, ?_⟩, ?_, fun i hi => absurd hi (Nat.not_lt_zero _)⟩, ⟨?_, ?_, fun i hi => absurd hi (Nat.not_lt_zero _)⟩, ?_⟩
  · unfold f_X10_rule
    rw [h2, if_neg (by omega), sd_s_at, if_pos (by omega), Int.toNat_natCast, ← hK0]
    unfold f_X10_readsAll
    rw [k11, if_pos (by omega), Int.toNat_natCast]
  · rw [sd_s_j (by omega), sd_s_j (by omega), sd_s_j (by omega), sd_s_j (by omega), sd_s_a (by omega), hK0, sd_s_a (by omega), sd_s_j (by omega)]
  · rw [sd_s_a (by omega), sd_s_a (by omega), sd_s_a (by omega), sd_s_a (by omega), sd_s_a (by omega), hK0, sd_s_a (by omega), sd_s_a (by omega)]
  · rw [sd_s_j (by omega), sd_s_j (by omega), sd_s_at]
    rfl
  · rw [sd_s_j (by omega), sd_s_j (by omega), sd_s_j (by omega), sd_s_j (by omega), sd_s_a (by omega), k11]
  · rw [sd_s_at]
    rfl
  · rw [sd_s_j (by omega), sd_s_at]
  · rw [sd_s_a (by omega), sd_s_a (by omega), sd_s_a (by omega), sd_s_a (by omega), sd_s_at]
    rfl
  · rw [sd_s_j (by omega), sd_s_j (by omega), sd_s_j (by omega), sd_s_at]
    rfl
  · rw [sd_s_a (by omega), sd_s_a (by omega), sd_s_a (by omega), sd_s_a (by omega), sd_s_a (by omega), hK0, sd_s_at]
    rfl
  · have q0 : rl_q3 r (sd_s M 331 11 (r : Int)) K0 := hK0 ▸ rl_q3_6
    have q1 : rl_q3 r K0 (sd_s K0 334 r 0) := ⟨fun a _ _ x _ _ _ => sd_s_a x, fun j _ _ _ _ _ _ _ _ => by rw [sd_s_a (by omega)], fun i _ => by rw [sd_s_a (by omega)], fun i _ => by rw [sd_s_a (by omega)], fun i _ => by rw [sd_s_a (by omega)]⟩
    exact rl_q3_tr q0 (rl_q3_tr q1 (rl_q3_tr (rl_q3_s (by omega)) (rl_q3_tr (rl_q3_s (by omega)) (rl_q3_tr (rl_q3_s (by omega)) (rl_q3_s (by omega))))))
theorem sp_rule : sd_S0 sd_Iv f_X9_rule f_X10_rule := by
  intro M h
  have h0 := h
  obtain ⟨ht, hr, hu, hi, hk⟩ := h
  obtain ⟨r, h2⟩ : ∃ r : Nat, M 331 2 = r := ⟨(M 331 2).toNat, by have := hr.1; omega⟩
  have h04 : M 0 4 = (r : Int) := by rw [hr.1.1, h2]
  have r6 : r ≤ 6 := by have := hr.1; omega
  by_cases c6 : r = 6
  · refine ⟨-1, M, M, ?_, ?_, h0⟩
    · unfold f_X9_rule
      rw [h04, if_neg (by omega), if_neg (by omega)]
    · unfold f_X10_rule
      rw [h2, if_pos (by omega)]
  have hr6 : r < 6 := by omega
  obtain ⟨n, hn⟩ : ∃ n : Nat, M 331 1 = n := ⟨(M 331 1).toNat, by have := ht.2.1; omega⟩
  have n4 : n ≤ 400 := by have := ht.2.1; omega
  have hbb : ∀ j, j < n → -128 ≤ M 332 j ∧ M 332 j < 128 := fun j hj => (ht.2.2 j (by omega)).2
  obtain ⟨R, hR⟩ : ∃ R : Nat, R = 16 + 7 * r := ⟨_, rfl⟩
  obtain ⟨Mc, hMc⟩ : ∃ Mc, Mc = sd_s (sd_s (sd_s M R 0 0) R 1 0) 14 0 0 := ⟨_, rfl⟩
  have mc : ∀ a, a ≠ R → a ≠ 14 → Mc a = M a := fun a x y => by rw [hMc, sd_s_a y, sd_s_a x, sd_s_a x]
  have by0 : tx_by Mc (M 332) n := tx_by_c (M := M) ⟨by rw [ht.1, hn], n4, fun j hj => ht.2.2 j (by omega)⟩ (by rw [mc 1 (by omega) (by omega)]) (mc 2 (by omega) (by omega))
  obtain ⟨N0, e0, cs0, z0, f0, g0⟩ := tx_cut by0
  have rc0 : rl_c N0 R [] 0 := by
    refine ⟨?_, fun i hi => absurd hi (Nat.not_lt_zero _), ?_⟩
    · rw [f0 R (by omega) (by omega) (by omega) (by omega), hMc, sd_s_a (by omega), sd_s_at]
      rfl
    · rw [f0 14 (by omega) (by omega) (by omega) (by omega), hMc, sd_s_at]
      rfl
  have cq0 : rl_cq N0 R [] := by
    refine ⟨?_, fun i hi => absurd hi (Nat.not_lt_zero _)⟩
    rw [f0 R (by omega) (by omega) (by omega) (by omega), hMc, sd_s_a (by omega), sd_s_j (by omega), sd_s_at]
    rfl
  have s0 := tx_s_b (B := M 332) (n := n) (p := 0) (by omega)
  obtain ⟨o, og, oc, orr⟩ := rl_loop (R := R) (r := r) hbb n4 (by omega) hr6 13 0 [] (tx_s (M 332) n 0) [] rfl (by omega) (by omega) (Nat.zero_le _) s0.2 (fun x hx => absurd hx (by simp)) (fun i hi => absurd hi (Nat.not_lt_zero _))
  have c := oc N0 4000 (by omega) cs0 rc0 cq0
  have er : f_X5_reads (16 + 7 * (M 0 4).toNat) M = rl_15 R 4000 (([] : List (Nat × Nat × Nat)).length : Int) N0 := by
    unfold f_X5_reads
    rw [h04, Int.toNat_natCast, ← hR]
    unfold f_X4_clear
    rw [Option.bind_some]
    simp only []
    rw [← hMc, e0, Option.bind_some]
    rfl
  have f1 : ∀ a, a ≠ 1 → a ≠ 3 → a ≠ 4 → a ≠ 5 → a ≠ 14 → a ≠ R → N0 a = M a := fun a x y z w v u => by rw [f0 a x y z w, mc a u v]
  have run9 : f_X9_rule M = ((rl_15 R 4000 (([] : List (Nat × Nat × Nat)).length : Int) N0).bind fun r4 => if r4.1 = 0 then (some (sd_w (((-2)) - (sd_s r4.2 1 1 0 1 2)), sd_s r4.2 1 1 0)) else (some (sd_w ((sd_s (sd_s r4.2 1 1 0) 0 4 (sd_w ((sd_s r4.2 1 1 0 0 4) + 1)) 0 4) - 1), sd_s (sd_s r4.2 1 1 0) 0 4 (sd_w ((sd_s r4.2 1 1 0 0 4) + 1))))) := by
    unfold f_X9_rule
    rw [er, if_neg (by omega), if_pos (by omega), if_pos (by omega)]
  cases o with
  | inl f =>
    obtain ⟨N, eN, n2, fr⟩ := c
    have f2 : ∀ a, a ≠ 1 → a ≠ 3 → a ≠ 4 → a ≠ 5 → a ≠ 14 → ¬ (R ≤ a ∧ a < R + 6) → sd_s N 1 1 0 a = M a := fun a x y z w v u => by rw [sd_s_a x, fr.1 a x v u, f1 a x y z w v (by omega)]
    have m331 := f2 331 (by omega) (by omega) (by omega) (by omega) (by omega) (by omega)
    have rb : tx_rb (sd_s N 1 1 0) (M 332) n := ⟨by rw [m331, hn], n4, fun j hj => ⟨by rw [f2 332 (by omega) (by omega) (by omega) (by omega) (by omega) (by omega)], hbb j hj⟩⟩
    obtain ⟨K, eK, rsK, rrK, rqK, kK⟩ := rl_ref rb (by rw [m331, h2]) hr6
    obtain ⟨L, eL, l9, l1, frL⟩ := orr K 4000 (by omega) rsK rrK rqK
    have kL := rl_q3_tr kK frL
    refine ⟨sd_w (-2 - f), sd_s N 1 1 0, L, ?_, ?_, ?_⟩
    · rw [run9]
      refine Eq.trans (congrArg (fun o => Option.bind o _) eN) ?_
      rw [Option.bind_some]
      simp only [if_true]
      rw [sd_s_j (show (2 : Nat) ≠ 1 by omega), n2]
    · rw [eK, eL, Option.bind_some]
      simp only [if_true]
      rw [l9]
    · have g : ∀ a, a ≠ 1 → a ≠ 3 → a ≠ 4 → a ≠ 5 → a ≠ 14 → ¬ (R ≤ a ∧ a < R + 6) → ¬ (331 ≤ a ∧ a < 339 ∧ a ≠ 332) → L a = M a := fun a x y z w v u t => by rw [kL.1 a (by omega) (by omega) (by omega) (by omega) (by omega) (by omega), sd_s_a (by omega), f2 a x y z w v u]
      have gj : ∀ j, (j = 2 ∨ 17 ≤ j) → L 331 j = M 331 j := fun j hj => by rw [kL.2.1 j (by omega) (by omega) (by omega) (by omega) (by omega) (by omega) (by omega) (by omega), sd_s_j (by omega), m331]
      have g11 : L 1 1 = 0 := by rw [kL.1 1 (by omega) (by omega) (by omega) (by omega) (by omega) (by omega), sd_s_a (by omega), sd_s_at]
      have hh : ∀ a, a = 0 ∨ (58 ≤ a ∧ a < 331) ∨ 339 ≤ a → L a = M a := fun a ha => g a (by omega) (by omega) (by omega) (by omega) (by omega) (by omega) (by omega)
      have g0 := hh 0 (by omega)
      have g341 := hh 341 (by omega)
      refine ⟨iv_t_0 g11 l1, ⟨?_, fun s hs => ?_⟩, iv_u_c hu (by rw [g0]) (by rw [g0]) (gj 27 (by omega)) (fun i _ => by rw [g341]) (hh 345 (by omega)) (fun a x y => hh a (by omega)), iv_i_c hi (hh 154 (by omega)) (hh 353 (by omega)) (hh 354 (by omega)) (hh 355 (by omega)) (hh 356 (by omega)) (by rw [gj 2 (by omega)]; exact Int.le_refl _) (fun a x y => hh a (by omega)), ?_⟩
      · rw [g0, gj 2 (by omega)]
        exact hr.1
      · rw [gj 2 (by omega), h2] at hs
        exact iv_r_o (r := r) hr h2 (fun a x y => g a (by omega) (by omega) (by omega) (by omega) (by omega) (by omega) (by omega)) (fun i hi2 => by rw [kL.2.2.1 i hi2, sd_s_a (by omega), f2 333 (by omega) (by omega) (by omega) (by omega) (by omega) (by omega)]) (fun i hi2 => by rw [kL.2.2.2.1 i hi2, sd_s_a (by omega), f2 335 (by omega) (by omega) (by omega) (by omega) (by omega) (by omega)]) (fun i hi2 => by rw [kL.2.2.2.2 i hi2, sd_s_a (by omega), f2 336 (by omega) (by omega) (by omega) (by omega) (by omega) (by omega)]) s (by omega)
      · unfold iv_k
        rw [g341, gj 21 (by omega), gj 22 (by omega), gj 2 (by omega)]
        exact ⟨hk.1, cl_dk_c hk.1.1 hk.2.1 (fun a x y => hh a (by omega)), hk.2.2⟩
  | inr y =>
    obtain ⟨k, Q, C⟩ := y
    obtain ⟨N, eN, rcN, cqN, fr⟩ := c
    simp only [] at rcN cqN
    obtain ⟨M1, hM1⟩ : ∃ M1, M1 = sd_s (sd_s N 1 1 0) 0 4 ((r + 1 : Nat) : Int) := ⟨_, rfl⟩
    have n04 : N 0 4 = (r : Int) := by rw [fr.1 0 (by omega) (by omega) (by omega), f1 0 (by omega) (by omega) (by omega) (by omega) (by omega) (by omega), h04]
    have z04 : sd_s N 1 1 0 0 4 = (r : Int) := by rw [sd_s_a (by omega), n04]
    have f2 : ∀ a, a ≠ 0 → a ≠ 1 → a ≠ 3 → a ≠ 4 → a ≠ 5 → a ≠ 14 → ¬ (R ≤ a ∧ a < R + 6) → M1 a = M a := fun a q x y z w v u => by rw [hM1, sd_s_a q, sd_s_a x, fr.1 a x v u, f1 a x y z w v (by omega)]
    have f20 : ∀ j, j ≠ 4 → M1 0 j = M 0 j := fun j hj => by rw [hM1, sd_s_j hj, sd_s_a (by omega), fr.1 0 (by omega) (by omega) (by omega), f1 0 (by omega) (by omega) (by omega) (by omega) (by omega) (by omega)]
    have m331 := f2 331 (by omega) (by omega) (by omega) (by omega) (by omega) (by omega) (by omega)
    have rb : tx_rb M1 (M 332) n := ⟨by rw [m331, hn], n4, fun j hj => ⟨by rw [f2 332 (by omega) (by omega) (by omega) (by omega) (by omega) (by omega) (by omega)], hbb j hj⟩⟩
    obtain ⟨K, eK, rsK, rrK, rqK, kK⟩ := rl_ref rb (by rw [m331, h2]) hr6
    obtain ⟨L, eL, rrL, rqL, l1, frL⟩ := orr K 4000 (by omega) rsK rrK rqK
    simp only [] at rrL rqL
    have kL := rl_q3_tr kK frL
    have l2 : L 331 2 = (r : Int) := by rw [kL.2.1 2 (by omega) (by omega) (by omega) (by omega) (by omega) (by omega) (by omega) (by omega), sd_s_j (by omega), m331, h2]
    obtain ⟨L1, hL1⟩ : ∃ L1, L1 = sd_s L 331 2 ((r + 1 : Nat) : Int) := ⟨_, rfl⟩
    refine ⟨(r : Int), M1, L1, ?_, ?_, ?_⟩
    · rw [run9]
      refine Eq.trans (congrArg (fun o => Option.bind o _) eN) ?_
      rw [Option.bind_some]
      simp only []
      rw [if_neg (by decide), z04, sd_wid (z := (r : Int) + 1) (by omega) (by omega), show (r : Int) + 1 = ((r + 1 : Nat) : Int) from rfl, ← hM1, show M1 0 4 = ((r + 1 : Nat) : Int) by rw [hM1, sd_s_at], sd_wid (by omega) (by omega)]
      rw [show ((r + 1 : Nat) : Int) - 1 = (r : Int) by omega]
    · rw [eK, eL, Option.bind_some]
      simp only []
      rw [if_neg (by decide), l2, sd_wid (z := (r : Int) + 1) (by omega) (by omega), show (r : Int) + 1 = ((r + 1 : Nat) : Int) from rfl, ← hL1, show L1 331 2 = ((r + 1 : Nat) : Int) by rw [hL1, sd_s_at], sd_wid (by omega) (by omega)]
      rw [show ((r + 1 : Nat) : Int) - 1 = (r : Int) by omega]
    · have gk : ∀ a, ¬ (331 ≤ a ∧ a < 339 ∧ a ≠ 332) → L1 a = M1 a := fun a t => by rw [hL1, sd_s_a (by omega), kL.1 a (by omega) (by omega) (by omega) (by omega) (by omega) (by omega), sd_s_a (by omega)]
      have g : ∀ a, a ≠ 0 → a ≠ 1 → a ≠ 3 → a ≠ 4 → a ≠ 5 → a ≠ 14 → ¬ (R ≤ a ∧ a < R + 6) → ¬ (331 ≤ a ∧ a < 339 ∧ a ≠ 332) → L1 a = M a := fun a q x y z w v u t => by rw [gk a t, f2 a q x y z w v u]
      have gj : ∀ j, 17 ≤ j → L1 331 j = M 331 j := fun j hj => by rw [hL1, sd_s_j (by omega), kL.2.1 j (by omega) (by omega) (by omega) (by omega) (by omega) (by omega) (by omega) (by omega), sd_s_j (by omega), m331]
      have g2 : L1 331 2 = ((r + 1 : Nat) : Int) := by rw [hL1, sd_s_at]
      have g11 : L1 1 1 = 0 := by rw [gk 1 (by omega), hM1, sd_s_a (by omega), sd_s_at]
      have g1 : L1 331 1 = 0 := by rw [hL1, sd_s_j (by omega), l1]
      have g04 : L1 0 4 = ((r + 1 : Nat) : Int) := by rw [gk 0 (by omega), hM1, sd_s_at]
      have g0 : ∀ j, j ≠ 4 → L1 0 j = M 0 j := fun j hj => by rw [gk 0 (by omega), f20 j hj]
      have hh : ∀ a, (58 ≤ a ∧ a < 331) ∨ 339 ≤ a → L1 a = M a := fun a ha => g a (by omega) (by omega) (by omega) (by omega) (by omega) (by omega) (by omega) (by omega)
      have g341 := hh 341 (by omega)
      have hN : ∀ a, a ≠ 0 → a ≠ 1 → ¬ (331 ≤ a ∧ a < 339 ∧ a ≠ 332) → L1 a = N a := fun a x y t => by rw [gk a t, hM1, sd_s_a x, sd_s_a y]
      have rc1 : rl_c L1 R C k := by
        unfold rl_c
        rw [hN R (by omega) (by omega) (by omega), hN (R + 4) (by omega) (by omega) (by omega), hN (R + 5) (by omega) (by omega) (by omega), hN 14 (by omega) (by omega) (by omega)]
        exact rcN
      have cq1 : rl_cq L1 R Q := by
        unfold rl_cq
        rw [hN R (by omega) (by omega) (by omega), hN (R + 1) (by omega) (by omega) (by omega), hN (R + 2) (by omega) (by omega) (by omega), hN (R + 3) (by omega) (by omega) (by omega)]
        exact cqN
      have rr1 : rl_r L1 r C k := hL1 ▸ rl_r_s rrL (by omega) (by omega) (by omega)
      have rq1 : rl_rq L1 r Q := hL1 ▸ rl_rq_s rqL (by omega)
      refine ⟨iv_t_0 g11 g1, ⟨⟨by rw [g04, g2], by rw [g2]; omega, by rw [g2]; omega⟩, fun s hs => ?_⟩, iv_u_c hu (g0 9 (by omega)) (g0 10 (by omega)) (gj 27 (by omega)) (fun i _ => by rw [g341]) (hh 345 (by omega)) (fun a x y => hh a (by omega)), iv_i_c hi (hh 154 (by omega)) (hh 353 (by omega)) (hh 354 (by omega)) (hh 355 (by omega)) (hh 356 (by omega)) (by rw [g2, h2]; omega) (fun a x y => hh a (by omega)), ?_⟩
      · rw [g2] at hs
        by_cases cs : s = r
        · rw [cs, ← hR]
          exact iv_r_n n4 og rc1 cq1 rr1 rq1
        · exact iv_r_o (r := r) hr h2 (fun a x y => g a (by omega) (by omega) (by omega) (by omega) (by omega) (by omega) (by omega) (by omega)) (fun i hi2 => by rw [hL1, sd_s_a (by omega), kL.2.2.1 i hi2, sd_s_a (by omega), f2 333 (by omega) (by omega) (by omega) (by omega) (by omega) (by omega) (by omega)]) (fun i hi2 => by rw [hL1, sd_s_a (by omega), kL.2.2.2.1 i hi2, sd_s_a (by omega), f2 335 (by omega) (by omega) (by omega) (by omega) (by omega) (by omega) (by omega)]) (fun i hi2 => by rw [hL1, sd_s_a (by omega), kL.2.2.2.2 i hi2, sd_s_a (by omega), f2 336 (by omega) (by omega) (by omega) (by omega) (by omega) (by omega) (by omega)]) s (by omega)
      · unfold iv_k
        rw [g341, gj 21 (by omega), gj 22 (by omega), g2]
        have k3 := hk.2.2
        exact ⟨hk.1, cl_dk_c hk.1.1 hk.2.1 (fun a x y => hh a (by omega)), by rw [h2] at k3; omega, k3.2⟩
