/-! rules are read alike: the loop of clauses -/
abbrev rl_O : Type := Int ⊕ (Nat × List (Nat × Nat × Nat) × List (Int × Int))
def rl_og (n : Nat) (o : rl_O) : Prop := match o with
  | .inl _ => True
  | .inr x => x.2.1.length ≤ 12 ∧ x.2.2.length ≤ n ∧ rl_cd x.2.2 ∧ ∀ i, i < x.2.1.length → rl_kq x.2.2 (rq_g x.2.1 i)
def rl_oc2 (R : Nat) (o : rl_O) (M : sd_M) (g : Option (Int × sd_M)) : Prop := match o with
  | .inl f => ∃ N, g = some (0, N) ∧ N 1 2 = f ∧ rl_fw R M N
  | .inr x => ∃ N, g = some (1, N) ∧ rl_c N R x.2.2 x.1 ∧ rl_cq N R x.2.1 ∧ rl_fw R M N
def rl_or2 (r : Nat) (o : rl_O) (K : sd_M) (g : Option (Int × sd_M)) : Prop := match o with
  | .inl f => ∃ L, g = some (0, L) ∧ L 331 9 = f ∧ L 331 1 = 0 ∧ rl_q3 r K L
  | .inr x => ∃ L, g = some (1, L) ∧ rl_r L r x.2.2 x.1 ∧ rl_rq L r x.2.1 ∧ L 331 1 = 0 ∧ rl_q3 r K L
theorem rl_oc2_tr {R : Nat} {o : rl_O} {M N : sd_M} {g : Option (Int × sd_M)} (f : rl_fw R M N) (h : rl_oc2 R o N g) : rl_oc2 R o M g := by
  cases o with
  | inl z =>
    obtain ⟨K, e, a, b⟩ := h
    exact ⟨K, e, a, rl_fw_tr f b⟩
  | inr x =>
    obtain ⟨K, e, a, c, b⟩ := h
    exact ⟨K, e, a, c, rl_fw_tr f b⟩
theorem rl_or2_tr {r : Nat} {o : rl_O} {K L : sd_M} {g : Option (Int × sd_M)} (f : rl_q3 r K L) (h : rl_or2 r o L g) : rl_or2 r o K g := by
  cases o with
  | inl z =>
    obtain ⟨K, e, a, c, b⟩ := h
    exact ⟨K, e, a, c, rl_q3_tr f b⟩
  | inr x =>
    obtain ⟨K, e, a, c, d, b⟩ := h
    exact ⟨K, e, a, c, d, rl_q3_tr f b⟩
theorem rl_88 {r : Nat} {K N : sd_M} {f : Int} (h : rl_q3 r K N) (h9 : N 331 9 = f) : f_X10_readsAll_88 N = some (if f = 0 then 1 else 0, sd_s N 331 1 0) ∧ (sd_s N 331 1 0) 331 9 = f ∧ (sd_s N 331 1 0) 331 1 = 0 ∧ rl_q3 r K (sd_s N 331 1 0) := by
  have e : (sd_s N 331 1 0) 331 9 = f := by rw [sd_s_j (by omega), h9]
  refine ⟨?_, e, sd_s_at, rl_q3_tr h (rl_q3_s (by omega))⟩
  unfold f_X10_readsAll_88
  rw [e]
  by_cases c : f = 0
  · rw [if_pos c, if_pos c]
  · rw [if_neg c, if_neg c]
theorem rl_rq_s {r i : Nat} {K : sd_M} {v : Int} {Q : List (Nat × Nat × Nat)} (h : rl_rq K r Q) (hi : i ≠ 14) : rl_rq (sd_s K 331 i v) r Q := by
  unfold rl_rq
  rw [sd_s_j (Ne.symm hi), sd_s_a (show (336 : Nat) ≠ 331 by omega), sd_s_a (show (335 : Nat) ≠ 331 by omega)]
  exact h
theorem rl_r_s {r i k : Nat} {K : sd_M} {v : Int} {C : List (Int × Int)} (h : rl_r K r C k) (h1 : i ≠ 11) (h2 : i ≠ 12) (h3 : i ≠ 9) : rl_r (sd_s K 331 i v) r C k := rl_r_c h (sd_s_j (Ne.symm h1)) (by rw [sd_s_j (Ne.symm h2)]; exact h.1.2.1) (by rw [sd_s_j (Ne.symm h3)]; exact h.1.2.2) (sd_s_a (by omega)) (sd_s_a (by omega))
theorem rl_kq_a {Q : List (Nat × Nat × Nat)} {x : Nat × Nat × Nat} {C D : List (Int × Int)} (h : ∀ i, i < Q.length → rl_kq C (rq_g Q i)) (e : ∃ E, D = C ++ E ∧ rl_cd E) (hx : rl_kq D x) : ∀ i, i < (Q ++ [x]).length → rl_kq D (rq_g (Q ++ [x]) i) := by
  obtain ⟨E, eD, _⟩ := e
  intro i hi
  rw [List.length_append] at hi
  have hi2 : i < Q.length + 1 := hi
  by_cases c : i = Q.length
  · rw [c, rq_g_e]
    exact hx
  · rw [rq_g_l (by omega), eD]
    exact rl_kq_l (h i (by omega))
theorem rl_loop {B : Nat → Int} {n R r : Nat} (hbb : ∀ j, j < n → -128 ≤ B j ∧ B j < 128) (n4 : n ≤ 400) (hR : 16 ≤ R) (hr : r < 6) : ∀ (m k : Nat) (Q : List (Nat × Nat × Nat)) (p : Nat) (C : List (Int × Int)), Q.length + m = 13 → 1 ≤ m → k ≤ 60 → C.length ≤ p → p ≤ n → rl_cd C → (∀ i, i < Q.length → rl_kq C (rq_g Q i)) → ∃ o : rl_O, rl_og n o ∧ (∀ (M : sd_M) (fu : Nat), m < fu → tx_cs M B n p → rl_c M R C k → rl_cq M R Q → rl_oc2 R o M (rl_15 R fu (Q.length : Int) M)) ∧ (∀ (K : sd_M) (fu : Nat), m < fu → tx_rs K B n p → rl_r K r C k → rl_rq K r Q → rl_or2 r o K ((f_X10_clauseHere K).bind fun r2 => f_X10_readsAll_35 f_X10_readsAll_66 fu r2.1 r2.2)) := by
  intro m
  induction m with
  | zero =>
    intro k Q p C hc h1
    exact absurd h1 (by omega)
  | succ m ih =>
    intro k Q p C hc h1 hk hC hp cdC kqC
    rcases rl_clause (R := R) (r := r) (Q := Q) (C := C) hbb n4 hR hr hk hC hp (by omega) with ⟨f, P, CC, F⟩ | ⟨p2, k2, D, x, ⟨b1, b2, b3, b4⟩, ⟨eD, kx⟩, CC, F⟩
    · refine ⟨.inl f, trivial, fun M fu hf cs rc cq => ?_, fun K fu hf rs rr rq => ?_⟩
      · obtain ⟨fu, rfl⟩ : ∃ g, fu = g + 1 := ⟨fu - 1, by omega⟩
        exact CC M fu cs rc cq
      · obtain ⟨fu, rfl⟩ : ∃ g, fu = g + 1 := ⟨fu - 1, by omega⟩
        obtain ⟨N, e, n9, fr⟩ := F K rs rr rq
        obtain ⟨q1, q2, q3, q4⟩ := rl_88 fr n9
        refine ⟨sd_s N 331 1 0, ?_, q2, q3, q4⟩
        rw [e, Option.bind_some]
        simp only []
        rw [f_X10_readsAll_35, if_pos rfl]
        unfold f_X10_readsAll_66
        rw [if_pos rfl, q1, if_neg (by omega)]
    · have S := tx_sg (B := B) (n := n) (p := p2) hbb (s := 59) (by omega) (by omega) (by omega) (by omega)
      have lQ : (Q ++ [x]).length = Q.length + 1 := by rw [List.length_append]; rfl
      have cdD : rl_cd D := by
        obtain ⟨E, e, cd⟩ := eD
        rw [e]
        exact rl_cd_a cdC cd
      have kqD := rl_kq_a kqC eD kx
      by_cases k1 : tx_kd B n p2 = 512
      · refine ⟨.inr (k2, Q ++ [x], D), ⟨by simp only []; omega, by simp only []; omega, cdD, kqD⟩, fun M fu hf cs rc cq => ?_, fun K fu hf rs rr rq => ?_⟩
        · obtain ⟨fu, rfl⟩ : ∃ g, fu = g + 1 := ⟨fu - 1, by omega⟩
          obtain ⟨N, e, csN, rcN, cqN, fr⟩ := CC M fu cs rc cq
          refine ⟨N, ?_, rcN, cqN, fr⟩
          rw [e]
          unfold rl_tl
          rw [tx_kind csN, Option.bind_some]
          simp only []
          rw [if_pos k1]
        · obtain ⟨fu, rfl⟩ : ∃ g, fu = g + 1 := ⟨fu - 1, by omega⟩
          obtain ⟨N, e, rsN, rrN, rqN, fr⟩ := F K rs rr rq
          have b := tx_rs_b rsN
          have pn : n ≤ p2 := (tx_kd_n b.1 hbb).mp k1
          have s8 := tx_rs_8 rsN
          obtain ⟨q1, q2, q3, q4⟩ := rl_88 (r := r) (N := sd_s N 331 8 (p2 : Int)) (f := 0) (rl_q3_tr fr (rl_q3_s (by omega))) (by rw [sd_s_j (by omega)]; exact rrN.1.2.2)
          refine ⟨sd_s (sd_s N 331 8 (p2 : Int)) 331 1 0, ?_, rl_r_s (rl_r_s rrN (by omega) (by omega) (by omega)) (by omega) (by omega) (by omega), rl_rq_s (rl_rq_s rqN (by omega)) (by omega), q3, q4⟩
          rw [e, Option.bind_some]
          simp only []
          rw [f_X10_readsAll_35, if_neg (by decide), tx_see rsN, Option.bind_some]
          simp only []
          rw [if_neg (by rw [if_neg (by omega)]; decide)]
          unfold f_X10_readsAll_66
          rw [if_neg (by decide), tx_see s8, Option.bind_some]
          simp only []
          rw [if_pos (by rw [if_neg (by omega)]), sd_s_ss, q1, if_pos rfl]
      · by_cases kd2 : tx_kd B n p2 = 59
        · obtain ⟨pn, bp, nx⟩ := S.2 kd2
          have nb := rl_nx0 (B := B) pn
          obtain ⟨o, og, oc, orr⟩ := ih k2 (Q ++ [x]) (tx_nx B n p2) D (by omega) (by omega) b2 (by omega) nb.2 cdD kqD
          refine ⟨o, og, fun M fu hf cs rc cq => ?_, fun K fu hf rs rr rq => ?_⟩
          · obtain ⟨fu, rfl⟩ : ∃ g, fu = g + 1 := ⟨fu - 1, by omega⟩
            obtain ⟨N, e, csN, rcN, cqN, fr⟩ := CC M fu cs rc cq
            obtain ⟨N2, e2, cs2, a1, a2⟩ := tx_step csN
            have f2 := rl_st_f (R := R) hR ⟨a1, a2⟩
            have q := oc N2 fu (by omega) cs2 (rl_st_c hR ⟨a1, a2⟩ rcN) (rl_cq_f hR cqN f2)
            have eq : rl_15 R (fu + 1) (Q.length : Int) M = rl_15 R fu (((Q ++ [x]).length : Nat) : Int) N2 := by
              rw [e]
              unfold rl_tl
              rw [tx_kind csN, Option.bind_some]
              simp only []
              rw [if_neg k1, tx_kind csN, Option.bind_some]
              simp only []
              rw [if_pos kd2, e2, Option.bind_some, sd_wid (by omega) (by omega), lQ]
              rfl
            rw [eq]
            exact rl_oc2_tr (rl_fw_tr fr (rl_fw_f f2)) q
          · obtain ⟨fu, rfl⟩ : ∃ g, fu = g + 1 := ⟨fu - 1, by omega⟩
            obtain ⟨N, e, rsN, rrN, rqN, fr⟩ := F K rs rr rq
            have b := tx_rs_b rsN
            obtain ⟨K2, hK2⟩ : ∃ K2, K2 = sd_s N 331 8 ((p2 + 1 : Nat) : Int) := ⟨_, rfl⟩
            have fK2 : rl_q3 r N K2 := hK2 ▸ rl_q3_s (by omega)
            have rs2 : tx_rs K2 B n (tx_nx B n p2) := by
              rw [hK2, nx]
              exact tx_rs_n rsN.1 (by omega)
            have q := orr K2 fu (by omega) rs2 (hK2 ▸ rl_r_s rrN (by omega) (by omega) (by omega)) (hK2 ▸ rl_rq_s rqN (by omega))
            have eq : ((f_X10_clauseHere K).bind fun r2 => f_X10_readsAll_35 f_X10_readsAll_66 (fu + 1) r2.1 r2.2) = ((f_X10_clauseHere K2).bind fun r2 => f_X10_readsAll_35 f_X10_readsAll_66 fu r2.1 r2.2) := by
              rw [e, Option.bind_some]
              simp only []
              rw [f_X10_readsAll_35, if_neg (by decide), tx_see rsN, Option.bind_some]
              simp only []
              rw [if_pos (S.1.mpr kd2), sd_s_at, sd_s_ss, sd_wid (by omega) (by omega), hK2]
              rfl
            rw [eq]
            exact rl_or2_tr (rl_q3_tr fr fK2) q
        · refine ⟨.inl (sl_f p2 0), trivial, fun M fu hf cs rc cq => ?_, fun K fu hf rs rr rq => ?_⟩
          · obtain ⟨fu, rfl⟩ : ∃ g, fu = g + 1 := ⟨fu - 1, by omega⟩
            obtain ⟨N, e, csN, rcN, cqN, fr⟩ := CC M fu cs rc cq
            obtain ⟨N2, e2, n2, fr2⟩ := rl_f0 hR csN (w := 0) (by omega)
            refine ⟨N2, ?_, n2, rl_fw_tr fr (rl_fw_f fr2)⟩
            rw [e]
            unfold rl_tl
            rw [tx_kind csN, Option.bind_some]
            simp only []
            rw [if_neg k1, tx_kind csN, Option.bind_some]
            simp only []
            rw [if_neg kd2]
            exact e2
          · obtain ⟨fu, rfl⟩ : ∃ g, fu = g + 1 := ⟨fu - 1, by omega⟩
            obtain ⟨N, e, rsN, rrN, rqN, fr⟩ := F K rs rr rq
            have b := tx_rs_b rsN
            have pn : p2 < n := by
              have := (tx_kd_n b.1 hbb).mpr
              omega
            have s8 := tx_rs_8 rsN
            have u := tx_ub_c (B p2)
            have ub := hbb p2 pn
            have z9 : sd_s N 331 8 (p2 : Int) 331 9 = 0 := by rw [sd_s_j (by omega)]; exact rrN.1.2.2
            have ff := tx_rfails z9 (p := p2) (w := 0) (by omega) (by omega)
            rw [show ((0 : Nat) : Int) = 0 from rfl] at ff
            obtain ⟨q1, q2, q3, q4⟩ := rl_88 (r := r) (N := sd_s (sd_s N 331 8 (p2 : Int)) 331 9 (sl_f p2 0)) (f := sl_f p2 0) (rl_q3_tr fr (rl_q3_tr (rl_q3_s (by omega)) (rl_q3_s (by omega)))) sd_s_at
            refine ⟨_, ?_, q2, q3, q4⟩
            rw [e, Option.bind_some]
            simp only []
            rw [f_X10_readsAll_35, if_neg (by decide), tx_see rsN, Option.bind_some]
            simp only []
            rw [if_neg (fun w => kd2 (S.1.mp w))]
            unfold f_X10_readsAll_66
            rw [if_neg (by decide), tx_see s8, Option.bind_some]
            simp only []
            rw [if_neg (by rw [if_pos pn]; omega), sd_s_ss, sd_s_at, ff, Option.bind_some]
            simp only []
            refine Eq.trans q1 ?_
            rw [if_neg (by unfold sl_f; omega)]
