/-! one clause: alike -/
theorem rl_clause {B : Nat → Int} {n R r : Nat} (hbb : ∀ j, j < n → -128 ≤ B j ∧ B j < 128) (n4 : n ≤ 400) (hR : 16 ≤ R) (hr : r < 6) {p k : Nat} {C : List (Int × Int)} {Q : List (Nat × Nat × Nat)} (hk : k ≤ 60) (hC : C.length ≤ p) (hp : p ≤ n) (hQ : Q.length ≤ 12) : (∃ f, rl_K0 B n R r p k C Q f) ∨ (∃ p2 k2 D x, rl_K1 B n R r p k C Q p2 k2 D x) := by
  by_cases kd : tx_kd B n p = 612
  · by_cases q12 : Q.length = 12
    · exact Or.inl ⟨sl_f p 4, rl_f1, fun M fu cs rc cq => (rl_c0 (k := k) (C := C) hR hQ cs fu).2 kd q12, fun K rs rr rq => (rl_take0 hr rs rr rq).2 kd q12⟩
    have hQ2 : Q.length < 12 := by omega
    have nb := rl_nxw hp hbb (by omega)
    obtain ⟨o, ok, oc, orf⟩ := rl_sum (R := R) (r := r) (p := tx_nx B n p) (C := C) hbb n4 hR hr hk (by omega) nb.2
    cases o with
    | inl f =>
      refine Or.inl ⟨f, ok, fun M fu cs rc cq => ?_, fun K rs rr rq => ?_⟩
      · obtain ⟨N, e, csN, rcN, cqN, fr⟩ := rl_c1 hR hQ2 cs rc cq kd fu
        obtain ⟨N2, e2, n2, fr2⟩ := oc N csN rcN
        refine ⟨N2, ?_, n2, rl_fw_tr fr (rl_fw_f fr2)⟩
        rw [e, e2, Option.bind_some]
        rfl
      · obtain ⟨L, e, rsL, rrL, _, fr⟩ := rl_take1 hr hQ2 rs rr rq kd
        obtain ⟨L2, e2, l9, fr2⟩ := orf L rsL rrL
        refine ⟨L2, ?_, l9, rl_q3_tr fr (rl_q3_q (rl_q2_q fr2))⟩
        rw [e, e2, Option.bind_some]
        rfl
    | inr y =>
      obtain ⟨p1, k1, C1⟩ := y
      obtain ⟨E1, eC1, cd1, kk1, ne1⟩ := rl_ok_t ok
      obtain ⟨_, ⟨a1, a2, a3⟩, a4, a5⟩ := ok
      simp only [] at a1 a2 a3 a4 a5 eC1 kk1
      have oc : ∀ M : sd_M, tx_cs M B n (tx_nx B n p) → rl_c M R C k → ∃ N, f_X5_readsSum R M = some (1, N) ∧ tx_cs N B n p1 ∧ rl_c N R C1 k1 ∧ rl_f R M N := oc
      have orf : ∀ K : sd_M, tx_rs K B n (tx_nx B n p) → rl_r K r C k → ∃ L, f_X10_sum K = some (1, L) ∧ tx_rs L B n p1 ∧ rl_r L r C1 k1 ∧ rl_q r K L := orf
      -- both, behind the sum
      have CC : ∀ (M : sd_M) (fu : Nat), tx_cs M B n p → rl_c M R C k → rl_cq M R Q → ∃ N, rl_15 R (fu + 1) (Q.length : Int) M = (if tx_kd B n p1 = 613 then ((f_X7_step N).bind fun r10 => (f_X5_readsTest R 0 r10.2).bind fun r11 => if r11.1 = 0 then (some (0, r11.2)) else ((f_X4_addClause R (C.length : Int) (C1.length : Int) r11.2).bind fun r1 => rl_tl (rl_15 R fu) R (Q.length : Int) r1.2)) else ((f_X4_addClause R (C.length : Int) (C1.length : Int) N).bind fun r1 => rl_tl (rl_15 R fu) R (Q.length : Int) r1.2)) ∧ tx_cs N B n p1 ∧ rl_c N R C1 k1 ∧ rl_cq N R Q ∧ rl_fw R M N := by
        intro M fu cs rc cq
        obtain ⟨N, e, csN, rcN, cqN, fr⟩ := rl_c1 hR hQ2 cs rc cq kd fu
        obtain ⟨N2, e2, cs2, rc2, fr2⟩ := oc N csN rcN
        refine ⟨N2, ?_, cs2, rc2, rl_cq_f hR cqN fr2, rl_fw_tr fr (rl_fw_f fr2)⟩
        rw [e, e2, Option.bind_some]
        simp only []
        rw [if_neg (show ¬ (1 : Int) = 0 by decide), tx_kind cs2, Option.bind_some]
        simp only []
        rw [rc2.1]
      have RR : ∀ K : sd_M, tx_rs K B n p → rl_r K r C k → rl_rq K r Q → ∃ L, f_X10_clauseHere K = ((rl_T1 (48 * r + 4 * Q.length) (1, L)).bind fun r3 => if r3.1 = 0 ∨ r3.1 = 1 then some (r3.1, r3.2) else none) ∧ tx_rs L B n p1 ∧ rl_r L r C1 k1 ∧ (L 331 14 = ((Q.length + 1 : Nat) : Int) ∧ L 336 r = (Q.length : Int) ∧ (∀ i, i < Q.length → rl_x4 (L 335) (48 * r + 4 * i) (rq_g Q i)) ∧ L 335 (48 * r + 4 * Q.length) = (C.length : Int)) ∧ rl_q3 r K L := by
        intro K rs rr rq
        obtain ⟨L, e, rsL, rrL, ⟨y1, y2, y3, y4⟩, fr⟩ := rl_take1 hr hQ2 rs rr rq kd
        obtain ⟨L2, e2, rs2, rr2, fr2⟩ := orf L rsL rrL
        have h335 := fr2.1 335 (by omega) (by omega) (by omega)
        have h336 := fr2.1 336 (by omega) (by omega) (by omega)
        refine ⟨L2, ?_, rs2, rr2, ⟨?_, ?_, fun i hi => ?_, ?_⟩, rl_q3_tr fr (rl_q3_q (rl_q2_q fr2))⟩
        · rw [e, e2, Option.bind_some]
        · rw [fr2.2.1 14 (by omega) (by omega) (by omega) (by omega), y1]
        · rw [h336, y2]
        · rw [h335]
          exact y3 i hi
        · rw [h335, y4]
      by_cases kd2 : tx_kd B n p1 = 613
      · have nb1 := rl_nxw a3 hbb (by omega)
        obtain ⟨o, ok, oc2, orf2⟩ := rl_test (R := R) (r := r) (p := tx_nx B n p1) (C := C1) hbb n4 hR hr a5 (by omega) nb1.2
        have CC2 : ∀ (M : sd_M) (fu : Nat), tx_cs M B n p → rl_c M R C k → rl_cq M R Q → ∃ N, rl_15 R (fu + 1) (Q.length : Int) M = ((f_X5_readsTest R 0 N).bind fun r11 => if r11.1 = 0 then (some (0, r11.2)) else ((f_X4_addClause R (C.length : Int) (C1.length : Int) r11.2).bind fun r1 => rl_tl (rl_15 R fu) R (Q.length : Int) r1.2)) ∧ tx_cs N B n (tx_nx B n p1) ∧ rl_c N R C1 k1 ∧ rl_cq N R Q ∧ rl_fw R M N := by
          intro M fu cs rc cq
          obtain ⟨N, e, csN, rcN, cqN, fr⟩ := CC M fu cs rc cq
          obtain ⟨N2, e2, cs2, b1, b2⟩ := tx_step csN
          have fr2 := rl_st_f (R := R) hR ⟨b1, b2⟩
          refine ⟨N2, ?_, cs2, rl_st_c hR ⟨b1, b2⟩ rcN, rl_cq_f hR cqN fr2, rl_fw_tr fr (rl_fw_f fr2)⟩
          rw [e, if_pos kd2, e2, Option.bind_some]
        cases o with
        | inl f =>
          refine Or.inl ⟨f, ok, fun M fu cs rc cq => ?_, fun K rs rr rq => ?_⟩
          · obtain ⟨N, e, csN, rcN, cqN, fr⟩ := CC2 M fu cs rc cq
            obtain ⟨N2, e2, n2, fr2⟩ := oc2 N csN rcN
            refine ⟨N2, ?_, n2, rl_fw_tr fr (rl_fw_f fr2)⟩
            rw [e, e2, Option.bind_some]
            rfl
          · obtain ⟨L, e, rsL, rrL, ⟨y1, y2, y3, y4⟩, fr⟩ := RR K rs rr rq
            obtain ⟨L2, h1, _, rr2, _, _, _, _, _, fr2⟩ := rl_take2 hr hQ2 rsL rrL y1 y2 y3 y4
            obtain ⟨e2, rs2, _⟩ := h1 kd2
            obtain ⟨L3, e3, l9, fr3⟩ := orf2 L2 rs2 rr2
            refine ⟨L3, ?_, l9, rl_q3_tr fr (rl_q3_tr fr2 (rl_q3_q fr3))⟩
            rw [e, e2, e3, Option.bind_some]
            rfl
        | inr y =>
          obtain ⟨p3, k3, C3⟩ := y
          obtain ⟨E3, eC3, cd3, kk3, ne3⟩ := rl_ok_t ok
          obtain ⟨_, ⟨b1, b2, b3⟩, b4, b5⟩ := ok
          simp only [] at b1 b2 b3 b4 b5 eC3 kk3
          have l3 : C3.length = C1.length + E3.length := by rw [eC3, List.length_append]
          have e3p : 0 < E3.length := List.length_pos_iff.mpr ne3
          have oc2 : ∀ M : sd_M, tx_cs M B n (tx_nx B n p1) → rl_c M R C1 k1 → ∃ N, f_X5_readsTest R 0 M = some (1, N) ∧ tx_cs N B n p3 ∧ rl_c N R C3 k3 ∧ rl_f R M N := oc2
          have orf2 : ∀ K : sd_M, tx_rs K B n (tx_nx B n p1) → rl_r K r C1 k1 → ∃ L, f_X10_tested K = some (1, L) ∧ tx_rs L B n p3 ∧ rl_r L r C3 k3 ∧ rl_q2 r K L := orf2
          refine Or.inr ⟨p3, k3, C3, (C.length, C1.length, C3.length), ⟨hQ2, b5, by omega, b3⟩, ⟨⟨E1 ++ E3, by rw [eC3, eC1]; simp [List.append_assoc], rl_cd_a cd1 cd3⟩, by rw [eC3]; exact rl_k_l kk1, ⟨by simp only []; omega, Nat.le_refl _⟩, Or.inr kk3⟩, fun M fu cs rc cq => ?_, fun K rs rr rq => ?_⟩
          · obtain ⟨N, e, csN, rcN, cqN, fr⟩ := CC2 M fu cs rc cq
            obtain ⟨N2, e2, cs2, rc2, fr2⟩ := oc2 N csN rcN
            obtain ⟨N3, e3, cs3, rc3, cq3, fr3⟩ := rl_addc (a := C.length) (b := C1.length) hR cs2 rc2 (rl_cq_f hR cqN fr2) hQ2
            refine ⟨N3, ?_, cs3, rc3, cq3, rl_fw_tr fr (rl_fw_tr (rl_fw_f fr2) fr3)⟩
            rw [e, e2, Option.bind_some]
            simp only []
            rw [if_neg (show ¬ (1 : Int) = 0 by decide), e3, Option.bind_some]
          · obtain ⟨L, e, rsL, rrL, ⟨y1, y2, y3, y4⟩, fr⟩ := RR K rs rr rq
            obtain ⟨L2, h1, _, rr2, w1, w2, w3, w4, w5, fr2⟩ := rl_take2 hr hQ2 rsL rrL y1 y2 y3 y4
            obtain ⟨e2, rs2, w6⟩ := h1 kd2
            obtain ⟨L3, e3, rs3, rr3, fr3⟩ := orf2 L2 rs2 rr2
            have h335 := fr3.1 335 (by omega) (by omega) (by omega) (by omega)
            have h336 := fr3.1 336 (by omega) (by omega) (by omega) (by omega)
            obtain ⟨L4, e4, rs4, rr4, rq4, fr4⟩ := rl_t110 (a := C.length) (b := C1.length) hr hQ2 rs3 rr3 (by rw [fr3.2.1 14 (by omega) (by omega) (by omega) (by omega) (by omega) (by omega), w1]) (by rw [h336, w2]) (fun i hi => by rw [h335]; exact w3 i hi) (by rw [h335, w4]) (by rw [h335, w5]) (by rw [h335, w6, if_neg (by omega)])
            refine ⟨L4, ?_, rs4, rr4, rq4, rl_q3_tr fr (rl_q3_tr fr2 (rl_q3_tr (rl_q3_q fr3) fr4))⟩
            rw [e, e2, e3, Option.bind_some]
            simp only []
            rw [if_neg (show ¬ (1 : Int) = 0 by decide), e4, Option.bind_some]
            rfl
      · refine Or.inr ⟨p1, k1, C1, (C.length, C1.length, C1.length), ⟨hQ2, a5, by omega, a3⟩, ⟨⟨E1, eC1, cd1⟩, kk1, ⟨Nat.le_refl _, Nat.le_refl _⟩, Or.inl rfl⟩, fun M fu cs rc cq => ?_, fun K rs rr rq => ?_⟩
        · obtain ⟨N, e, csN, rcN, cqN, fr⟩ := CC M fu cs rc cq
          obtain ⟨N3, e3, cs3, rc3, cq3, fr3⟩ := rl_addc (a := C.length) (b := C1.length) hR csN rcN cqN hQ2
          refine ⟨N3, ?_, cs3, rc3, cq3, rl_fw_tr fr fr3⟩
          rw [e, if_neg kd2, e3, Option.bind_some]
        · obtain ⟨L, e, rsL, rrL, ⟨y1, y2, y3, y4⟩, fr⟩ := RR K rs rr rq
          obtain ⟨L2, _, h1, rr2, w1, w2, w3, w4, w5, fr2⟩ := rl_take2 hr hQ2 rsL rrL y1 y2 y3 y4
          obtain ⟨e2, rs2, w6⟩ := h1 kd2
          obtain ⟨L4, e4, rs4, rr4, rq4, fr4⟩ := rl_t110 (a := C.length) (b := C1.length) hr hQ2 rs2 rr2 w1 w2 w3 w4 w5 (by rw [w6, if_pos rfl])
          refine ⟨L4, ?_, rs4, rr4, rq4, rl_q3_tr fr (rl_q3_tr fr2 fr4)⟩
          rw [e, e2, e4, Option.bind_some]
          rfl
  · exact Or.inl ⟨sl_f p 0, rl_f1, fun M fu cs rc cq => (rl_c0 (k := k) (C := C) hR hQ cs fu).1 kd, fun K rs rr rq => (rl_take0 hr rs rr rq).1 kd⟩
