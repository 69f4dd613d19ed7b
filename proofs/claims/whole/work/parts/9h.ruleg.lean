/-! a comparison is read alike -/
theorem rl_105 {r : Nat} {K2 : sd_M} {b p o : Int} {k : Nat} {s : Int} (k12 : K2 331 12 = (k : Int)) (hk : k < 60) (hb : b = 60 ∨ b = 61 ∨ b = 62) (ho : o = 0 ∨ o = 1) (hs : s = if o = 1 then (if b = 60 then 8 else if b = 61 then 9 else 10) else (if b = 60 then 7 else if b = 61 then 9 else 11)) : f_X10_compare_105 b p o K2 = (f_X10_sum (sd_s K2 331 12 ((k + 1 : Nat) : Int))).bind fun r1 => if r1.1 = 0 then (some (0, r1.2)) else ((f_X10_puts (ms_gi s) 0 r1.2).bind fun r3 => some (1, r3.2)) := by
  have e : f_X10_makes p K2 = some (1, sd_s K2 331 12 ((k + 1 : Nat) : Int)) := by
    unfold f_X10_makes
    rw [k12, if_neg (show ¬ (k : Int) = 60 by omega), sd_wid (by omega) (by omega)]
    rfl
  have k152 : ∀ (z : Int), (z = 0 ∨ z = 1 ∨ z = 2 ∨ z = 3 ∨ z = 4) → ms_gi s = 6 + z → f_X10_compare_152 z (sd_s K2 331 12 ((k + 1 : Nat) : Int)) = (f_X10_sum (sd_s K2 331 12 ((k + 1 : Nat) : Int))).bind fun r1 => if r1.1 = 0 then (some (0, r1.2)) else ((f_X10_puts (ms_gi s) 0 r1.2).bind fun r3 => some (1, r3.2)) := by
    intro z hz hg
    unfold f_X10_compare_152
    rw [sd_wid (by omega) (by omega), hg]
  unfold f_X10_compare_105
  rw [e, Option.bind_some]
  simp only []
  rw [if_neg (show ¬ (1 : Int) = 0 by decide)]
  rcases ho with h | h
  · rw [h, if_neg (show ¬ (0 : Int) = 1 by decide)] at hs
    rcases hb with q | q | q
    · rw [q, if_pos rfl] at hs
      rw [q, if_pos rfl, h, if_pos rfl]
      exact k152 0 (by omega) (by rw [hs]; decide)
    · rw [q, if_neg (by decide), if_pos rfl] at hs
      rw [q, if_neg (by decide), if_pos rfl]
      exact k152 2 (by omega) (by rw [hs]; decide)
    · rw [q, if_neg (by decide), if_neg (by decide)] at hs
      rw [q, if_neg (by decide), if_neg (by decide), h, if_pos rfl]
      exact k152 4 (by omega) (by rw [hs]; decide)
  · rw [h, if_pos rfl] at hs
    rcases hb with q | q | q
    · rw [q, if_pos rfl] at hs
      rw [q, if_pos rfl, h, if_neg (by decide)]
      exact k152 1 (by omega) (by rw [hs]; decide)
    · rw [q, if_neg (by decide), if_pos rfl] at hs
      rw [q, if_neg (by decide), if_pos rfl]
      exact k152 2 (by omega) (by rw [hs]; decide)
    · rw [q, if_neg (by decide), if_neg (by decide)] at hs
      rw [q, if_neg (by decide), if_neg (by decide), h, if_neg (by decide)]
      exact k152 3 (by omega) (by rw [hs]; decide)
theorem rl_cp {B : Nat → Int} {n R r k p : Nat} {C : List (Int × Int)} (hbb : ∀ j, j < n → -128 ≤ B j ∧ B j < 128) (n4 : n ≤ 400) (hR : 16 ≤ R) (hr : r < 6) (hk : k ≤ 60) (hC : C.length < p) (hp : p ≤ n) : ∃ o : rl_R, rl_p o (fun f => 0 < f) (rl_ok n p k 0 [] true C) ∧ (∀ M : sd_M, tx_cs M B n p → rl_c M R C k → rl_Cl B n R o M (f_X5_readsComparison R M)) ∧ (∀ K : sd_M, tx_rs K B n p → rl_r K r C k → rl_Rf B n r o K (f_X10_compare K)) := by
  obtain ⟨o1, ok1, oc1, or1⟩ := rl_sum (R := R) (r := r) hbb n4 hR hr hk hC hp
  cases o1 with
  | inl f =>
    refine ⟨.inl f, ok1, fun M cs rc => ?_, fun K rs rr => ?_⟩
    · obtain ⟨N, e, n2, fr⟩ := oc1 M cs rc
      refine ⟨N, ?_, n2, fr⟩
      unfold f_X5_readsComparison
      rw [e, Option.bind_some]
      rfl
    · obtain ⟨L, e, l9, fr⟩ := or1 K rs rr
      refine ⟨L, ?_, l9, fr⟩
      unfold f_X10_compare
      rw [e, Option.bind_some]
      rfl
  | inr y =>
    obtain ⟨p1, k1, C1⟩ := y
    obtain ⟨⟨E1, eC1, cd1, t1⟩, ⟨a1, a2, a3⟩, a4, a5⟩ := ok1
    simp only [] at eC1 a1 a2 a3 a4 a5
    have oc1 : ∀ M : sd_M, tx_cs M B n p → rl_c M R C k → ∃ N, f_X5_readsSum R M = some (1, N) ∧ tx_cs N B n p1 ∧ rl_c N R C1 k1 ∧ rl_f R M N := oc1
    have or1 : ∀ K : sd_M, tx_rs K B n p → rl_r K r C k → ∃ L, f_X10_sum K = some (1, L) ∧ tx_rs L B n p1 ∧ rl_r L r C1 k1 ∧ rl_q r K L := or1
    have cm := rl_cmp (B := B) (n := n) (p := p1) hbb
    -- the class, behind the first sum
    have CC : ∀ M : sd_M, tx_cs M B n p → rl_c M R C k → ∃ N, tx_cs N B n p1 ∧ rl_c N R C1 k1 ∧ rl_f R M N ∧ f_X5_readsComparison R M = if rl_so (tx_kd B n p1) < 7 then (f_X5_readsComparison_31 R N) else (if rl_so (tx_kd B n p1) ≤ 11 then (if (N 14 0) < 60 then ((f_X7_step (sd_s N 14 0 (sd_w ((N 14 0) + 1)))).bind fun r8 => (f_X5_readsSum R r8.2).bind fun r9 => if r9.1 = 0 then (some (0, r9.2)) else ((f_X4_add R (rl_so (tx_kd B n p1)) 0 r9.2).bind fun r11 => some (1, r11.2))) else ((f_X7_fails 3 N).bind fun r12 => if r12.1 = 0 ∨ r12.1 = 1 then some (r12.1, r12.2) else none)) else (f_X5_readsComparison_31 R N)) := by
      intro M cs rc
      obtain ⟨N, e, csN, rcN, fr⟩ := oc1 M cs rc
      refine ⟨N, csN, rcN, fr, ?_⟩
      unfold f_X5_readsComparison
      rw [e, Option.bind_some]
      simp only []
      rw [if_neg (show ¬ (1 : Int) = 0 by decide), tx_kind csN, Option.bind_some]
      simp only []
      rw [rl_so_e, Option.bind_some]
    have RR : ∀ K : sd_M, tx_rs K B n p → rl_r K r C k → ∃ L, tx_rs L B n p1 ∧ rl_r L r C1 k1 ∧ rl_q r K L ∧ f_X10_compare K = if (if p1 < n then tx_ub (B p1) else -1) = 60 ∨ (if p1 < n then tx_ub (B p1) else -1) = 61 ∨ (if p1 < n then tx_ub (B p1) else -1) = 62 then f_X10_compare_44 (if p1 < n then tx_ub (B p1) else -1) (p1 : Int) (sd_s L 331 8 (p1 : Int)) else ((f_X10_fails 0 (p1 : Int) (sd_s L 331 8 (p1 : Int))).bind fun r7 => if r7.1 = 0 ∨ r7.1 = 1 then some (r7.1, r7.2) else none) := by
      intro K rs rr
      obtain ⟨L, e, rsL, rrL, fr⟩ := or1 K rs rr
      refine ⟨L, rsL, rrL, fr, ?_⟩
      unfold f_X10_compare
      rw [e, Option.bind_some]
      simp only []
      rw [if_neg (show ¬ (1 : Int) = 0 by decide), tx_see rsL, Option.bind_some]
      simp only []
      rw [show sd_s L 331 8 (p1 : Int) 331 8 = (p1 : Int) from sd_s_at]
      generalize (if p1 < n then tx_ub (B p1) else -1) = c
      by_cases b1 : c = 60
      · rw [if_pos b1, if_pos (Or.inl b1)]
      rw [if_neg b1]
      by_cases b2 : c = 61
      · rw [if_pos b2, if_pos (Or.inr (Or.inl b2))]
      rw [if_neg b2]
      by_cases b3 : c = 62
      · rw [if_pos b3, if_pos (Or.inr (Or.inr b3))]
      rw [if_neg b3, if_neg (by omega)]
    have u := tx_ub_c (B p1)
    by_cases c : p1 < n ∧ (B p1 = 60 ∨ B p1 = 61 ∨ B p1 = 62)
    · obtain ⟨pn, hB⟩ := c
      have ub := hbb p1 pn
      have eB : (if p1 < n then tx_ub (B p1) else -1) = B p1 := by
        rw [if_pos pn]
        omega
      have hs : rl_so (tx_kd B n p1) = (if (if tx_oq B n p1 = true then (1 : Int) else 0) = 1 then (if B p1 = 60 then 8 else if B p1 = 61 then 9 else 10) else (if B p1 = 60 then 7 else if B p1 = 61 then 9 else 11)) ∧ (p1 < tx_nx B n p1 ∧ tx_nx B n p1 ≤ n) := by
        cases o : tx_oq B n p1 with
        | true =>
          obtain ⟨q1, q2, q3, q4, q5⟩ := cm.2.1 pn hB o
          have sb := tx_s_b (B := B) (n := n) (p := p1 + 2) (by omega)
          refine ⟨?_, by omega⟩
          rw [q1, if_pos (show (if true = true then (1 : Int) else 0) = 1 from rfl)]
          by_cases b : B p1 = 60
          · rw [if_pos b, if_pos b]
          · rw [if_neg b, if_neg b, if_neg q5]
        | false =>
          obtain ⟨q1, q2, q3⟩ := cm.2.2 pn hB o
          have sb := tx_s_b (B := B) (n := n) (p := p1 + 1) (by omega)
          refine ⟨?_, by omega⟩
          rw [q1, if_neg (show ¬ (if false = true then (1 : Int) else 0) = 1 by decide)]
      obtain ⟨hs, nb1, nb2⟩ := hs
      have hs7 : 7 ≤ rl_so (tx_kd B n p1) ∧ rl_so (tx_kd B n p1) ≤ 11 := by
        rw [hs]
        repeat' split
        all_goals omega
      have ho : (if tx_oq B n p1 = true then (1 : Int) else 0) = 0 ∨ (if tx_oq B n p1 = true then (1 : Int) else 0) = 1 := by
        split <;> omega
      generalize rl_so (tx_kd B n p1) = s at hs hs7 CC
      have RR2 : ∀ K : sd_M, tx_rs K B n p → rl_r K r C k → ∃ L, tx_rs L B n (tx_nx B n p1) ∧ rl_r L r C1 k1 ∧ rl_q r K L ∧ f_X10_compare K = f_X10_compare_105 (B p1) (p1 : Int) (if tx_oq B n p1 = true then 1 else 0) L := by
        intro K rs rr
        obtain ⟨L, rsL, rrL, fr, e⟩ := RR K rs rr
        obtain ⟨L2, e2, rs2, rr2, fr2⟩ := rl_c44 rrL rsL pn hB
        refine ⟨L2, rs2, rr2, rl_q_tr fr fr2, ?_⟩
        rw [e, eB, if_pos hB]
        exact e2
      by_cases k60 : 60 ≤ k1
      · have f1 : 0 < sl_f p1 3 := by unfold sl_f; omega
        refine ⟨.inl (sl_f p1 3), f1, fun M cs rc => ?_, fun K rs rr => ?_⟩
        · obtain ⟨N, csN, rcN, fr, e⟩ := CC M cs rc
          obtain ⟨N2, e2, n2, fr2⟩ := rl_f0 hR csN (w := 3) (by omega)
          refine ⟨N2, ?_, n2, rl_f_tr fr fr2⟩
          rw [e, if_neg (by omega), if_pos hs7.2, if_neg (by rw [rcN.2.2]; omega)]
          exact e2
        · obtain ⟨L, rsL, rrL, fr, e⟩ := RR2 K rs rr
          obtain ⟨L3, e3, l9, fr3⟩ := rl_rf0 fr rrL.1.2.2 (p := p1) (by omega) (w := 3) (by omega) (z := 3) rfl
          refine ⟨L3, ?_, l9, fr3⟩
          rw [e]
          unfold f_X10_compare_105 f_X10_makes
          rw [rrL.1.2.1, if_pos (by omega), e3, Option.bind_some]
          rfl
      · obtain ⟨o2, ok2, oc2, or2⟩ := rl_sum (R := R) (r := r) (k := k1 + 1) (p := tx_nx B n p1) (C := C1) hbb n4 hR hr (by omega) (by omega) nb2
        have CC2 : ∀ M : sd_M, tx_cs M B n p → rl_c M R C k → ∃ N, tx_cs N B n (tx_nx B n p1) ∧ rl_c N R C1 (k1 + 1) ∧ rl_f R M N ∧ f_X5_readsComparison R M = ((f_X5_readsSum R N).bind fun r9 => if r9.1 = 0 then (some (0, r9.2)) else ((f_X4_add R s 0 r9.2).bind fun r11 => some (1, r11.2))) := by
          intro M cs rc
          obtain ⟨N, csN, rcN, fr, e⟩ := CC M cs rc
          have rc1 : rl_c (sd_s N 14 0 ((k1 + 1 : Nat) : Int)) R C1 (k1 + 1) := by
            refine ⟨by rw [sd_s_a (by omega)]; exact rcN.1, fun i hi => ?_, sd_s_at⟩
            rw [sd_s_a (by omega), sd_s_a (by omega)]
            exact rcN.2.1 i hi
          have cs1 : tx_cs (sd_s N 14 0 ((k1 + 1 : Nat) : Int)) B n p1 := rl_add_cs csN (fun a ha => sd_s_a (by omega))
          have fr1 : rl_f R N (sd_s N 14 0 ((k1 + 1 : Nat) : Int)) := ⟨fun a _ y _ _ _ => sd_s_a y, fun j _ _ => by rw [sd_s_a (by omega)], by rw [sd_s_a (by omega)]⟩
          obtain ⟨N2, e2, cs2, b1, b2⟩ := tx_step cs1
          refine ⟨N2, cs2, rl_st_c hR ⟨b1, b2⟩ rc1, rl_f_tr fr (rl_f_tr fr1 (rl_st_f hR ⟨b1, b2⟩)), ?_⟩
          rw [e, if_neg (by omega), if_pos hs7.2, rcN.2.2, if_pos (by omega), sd_wid (by omega) (by omega), show (k1 : Int) + 1 = ((k1 + 1 : Nat) : Int) from rfl, e2, Option.bind_some]
        have RR3 : ∀ K : sd_M, tx_rs K B n p → rl_r K r C k → ∃ L, tx_rs L B n (tx_nx B n p1) ∧ rl_r L r C1 (k1 + 1) ∧ rl_q r K L ∧ f_X10_compare K = ((f_X10_sum L).bind fun r1 => if r1.1 = 0 then (some (0, r1.2)) else ((f_X10_puts (ms_gi s) 0 r1.2).bind fun r3 => some (1, r3.2))) := by
          intro K rs rr
          obtain ⟨L, rsL, rrL, fr, e⟩ := RR2 K rs rr
          refine ⟨sd_s L 331 12 ((k1 + 1 : Nat) : Int), tx_rs_c rsL (sd_s_j (by omega)) (sd_s_j (by omega)) (sd_s_a (by omega)), rl_r_c rrL (sd_s_j (by omega)) sd_s_at (by rw [sd_s_j (by omega)]; exact rrL.1.2.2) (sd_s_a (by omega)) (sd_s_a (by omega)), rl_q_tr fr (rl_q_s (by omega)), ?_⟩
          rw [e]
          exact rl_105 (r := r) rrL.1.2.1 (by omega) hB ho hs
        cases o2 with
        | inl f =>
          refine ⟨.inl f, ok2, fun M cs rc => ?_, fun K rs rr => ?_⟩
          · obtain ⟨N, csN, rcN, fr, e⟩ := CC2 M cs rc
            obtain ⟨N2, e2, n2, fr2⟩ := oc2 N csN rcN
            refine ⟨N2, ?_, n2, rl_f_tr fr fr2⟩
            rw [e, e2, Option.bind_some]
            rfl
          · obtain ⟨L, rsL, rrL, fr, e⟩ := RR3 K rs rr
            obtain ⟨L2, e2, l9, fr2⟩ := or2 L rsL rrL
            refine ⟨L2, ?_, l9, rl_q_tr fr fr2⟩
            rw [e, e2, Option.bind_some]
            rfl
        | inr y =>
          obtain ⟨p2, k2, C2⟩ := y
          obtain ⟨⟨E2, eC2, cd2, t2⟩, ⟨b1, b2, b3⟩, b4, b5⟩ := ok2
          simp only [] at eC2 b1 b2 b3 b4 b5
          have oc2 : ∀ M : sd_M, tx_cs M B n (tx_nx B n p1) → rl_c M R C1 (k1 + 1) → ∃ N, f_X5_readsSum R M = some (1, N) ∧ tx_cs N B n p2 ∧ rl_c N R C2 k2 ∧ rl_f R M N := oc2
          have or2 : ∀ K : sd_M, tx_rs K B n (tx_nx B n p1) → rl_r K r C1 (k1 + 1) → ∃ L, f_X10_sum K = some (1, L) ∧ tx_rs L B n p2 ∧ rl_r L r C2 k2 ∧ rl_q r K L := or2
          have lD : (C2 ++ [(s, (0 : Int))]).length = C2.length + 1 := by rw [List.length_append]; rfl
          refine ⟨.inr (p2, k2, C2 ++ [(s, 0)]), ⟨⟨E1 ++ (E2 ++ [(s, 0)]), ?_, rl_cd_a cd1 (rl_cd_a cd2 (fun x hx => ?_)), fun t ht => ?_⟩, ⟨?_, ?_, b3⟩, ?_, b5⟩, fun M cs rc => ?_, fun K rs rr => ?_⟩
          · simp only []
            rw [eC2, eC1]
            simp [List.append_assoc]
          · rw [List.mem_singleton.mp hx]
            simp only []
            omega
          · have q1 := t1 t ht
            rw [List.nil_append] at q1 ht ⊢
            have q2 := t2 (false :: t) (by rw [List.nil_append, List.length_cons]; omega)
            rw [List.nil_append] at q2
            rw [rl_t_a, q1, Option.bind_some, rl_t_a, q2, Option.bind_some, rl_t]
            have q3 := rl_t_cmp hs7 t
            rw [show ((s, (0 : Int)).1) = s from rfl, show ((s, (0 : Int)).2) = 0 from rfl, q3, Option.bind_some, rl_t]
          · simp only []
            omega
          · simp only []
            omega
          · simp only []
            omega
          · obtain ⟨N, csN, rcN, fr, e⟩ := CC2 M cs rc
            obtain ⟨N2, e2, cs2, rc2, fr2⟩ := oc2 N csN rcN
            obtain ⟨N3, e3, rc3, fr3, lo3⟩ := rl_add hR rc2 (by omega) s 0
            refine ⟨N3, ?_, rl_add_cs cs2 lo3, rc3, rl_f_tr fr (rl_f_tr fr2 fr3)⟩
            rw [e, e2, Option.bind_some]
            simp only []
            rw [if_neg (show ¬ (1 : Int) = 0 by decide), e3, Option.bind_some]
          · obtain ⟨L, rsL, rrL, fr, e⟩ := RR3 K rs rr
            obtain ⟨L2, e2, rs2, rr2, fr2⟩ := or2 L rsL rrL
            obtain ⟨L3, e3, rr3, fr3, l331⟩ := rl_puts hr rr2 (by omega) (s := s) (v := 0) (g := ms_gi s) (by omega) rfl (by omega)
            refine ⟨L3, ?_, tx_rs_c rs2 (by rw [l331]) (by rw [l331]) (fr3.1 332 (by omega) (by omega) (by omega)), rr3, rl_q_tr fr (rl_q_tr fr2 fr3)⟩
            rw [e, e2, Option.bind_some]
            simp only []
            rw [if_neg (show ¬ (1 : Int) = 0 by decide), e3, Option.bind_some]
    · have lo := cm.1 c
      have f1 : 0 < sl_f p1 0 := by unfold sl_f; omega
      refine ⟨.inl (sl_f p1 0), f1, fun M cs rc => ?_, fun K rs rr => ?_⟩
      · obtain ⟨N, csN, rcN, fr, e⟩ := CC M cs rc
        obtain ⟨N2, e2, n2, fr2⟩ := rl_f0 hR csN (w := 0) (by omega)
        refine ⟨N2, ?_, n2, rl_f_tr fr fr2⟩
        rw [e, if_pos lo]
        exact e2
      · obtain ⟨L, rsL, rrL, fr, e⟩ := RR K rs rr
        obtain ⟨b1, b2, b3⟩ := rl_see8 rrL rsL
        have nc : ¬ ((if p1 < n then tx_ub (B p1) else -1) = 60 ∨ (if p1 < n then tx_ub (B p1) else -1) = 61 ∨ (if p1 < n then tx_ub (B p1) else -1) = 62) := by
          by_cases pn : p1 < n
          · have ub := hbb p1 pn
            rw [if_pos pn]
            omega
          · rw [if_neg pn]
            omega
        rw [e, if_neg nc]
        exact rl_rf0 (rl_q_tr fr b3) b2.1.2.2 (by omega) (w := 0) (by omega) rfl
