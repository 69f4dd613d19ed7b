/-! a test's loop, in both -/
theorem rl_dp_w {a o : Bool} {st : List Int} : rl_dp (rl_aw a ++ (rl_ow o ++ st)) = rl_dp st := by
  cases a <;> cases o <;> rfl
theorem rl_ln_w {a o : Bool} {st : List Int} : (rl_aw a ++ (rl_ow o ++ st)).length ≤ st.length + 2 := by
  rw [List.length_append, List.length_append]
  cases a <;> cases o <;> simp [rl_aw, rl_ow] <;> omega
theorem rl_TL {B : Nat → Int} {n R r : Nat} (hbb : ∀ j, j < n → -128 ≤ B j ∧ B j < 128) (n4 : n ≤ 400) (hR : 16 ≤ R) (hr : r < 6) {q d : Nat} (hd : d ≤ 10) (hF : rl_CF B n R r q d) : ∀ (m0 k : Nat) (a o : Bool) (p : Nat) (C : List (Int × Int)), k + m0 = 60 → C.length + rl_wd a o < p → p ≤ n → ∃ x : rl_R, rl_p x (fun f => 0 < f) (rl_to B n p k a o C) ∧ (∀ (M : sd_M) (fu i : Nat), m0 < fu → i + m0 ≤ 400 → tx_cs M B n p → rl_c M R C k → rl_Cl B n R x M (fb_X5_readsTest_9 R (f_X5_rc q true) (f_X5_rc q false) fu (d : Int) (rl_w1 a) (rl_w1 o) (i : Int) M)) ∧ ∀ (K : sd_M) (st : List Int) (m fuF : Nat), tx_rs K B n p → rl_r K r C k → rl_sk K (rl_aw a ++ (rl_ow o ++ st)) → rl_b0 st → rl_dp st = d → st.length ≤ 3 * d → 61 ≤ m + k → 12 ≤ fuF + d → rl_RT2 B n r d x K m k fuF st := by
  intro m0
  induction m0 using Nat.strongRecOn with
  | ind m0 ih =>
    intro k a o p C hk hC hp
    have w1 := rl_wd_e (a := a) (o := o)
    obtain ⟨x, xk, xc, xr⟩ := hF p k C (by omega) (by omega) hp
    cases x with
    | inl f =>
      refine ⟨.inl f, xk, fun M fu i hf hi cs rc => ?_, fun K st m fuF rs rr sk hb hdp hl hm hfu => ?_⟩
      · obtain ⟨fu, rfl⟩ : ∃ g, fu = g + 1 := ⟨fu - 1, by omega⟩
        obtain ⟨N, e, n2, fr⟩ := xc M cs rc
        refine ⟨N, ?_, n2, fr⟩
        rw [fb_X5_readsTest_9, if_neg (by omega), e, Option.bind_some]
        rfl
      · have ln := rl_ln_w (a := a) (o := o) (st := st)
        exact xr K _ m fuF rs rr sk (rl_dp_w.trans hdp) (by omega) hm hfu
    | inr y =>
      obtain ⟨p1, k1, C1⟩ := y
      obtain ⟨⟨E1, eC1, cd1, t1⟩, ⟨a1, a2, a3⟩, a4, a5⟩ := xk
      simp only [] at eC1 a1 a2 a3 a4 a5
      have xc : ∀ M : sd_M, tx_cs M B n p → rl_c M R C k → ∃ N, f_X5_rc q false R (d : Int) M = some (1, N) ∧ tx_cs N B n p1 ∧ rl_c N R C1 k1 ∧ rl_f R M N := xc
      have xr : ∀ (K : sd_M) (st : List Int) (m fuF : Nat), tx_rs K B n p → rl_r K r C k → rl_sk K st → rl_dp st = d → st.length ≤ 3 * d + 2 → 61 ≤ m + k → 12 ≤ fuF + d → ∃ L m2 fuC fuL, rl_F m fuF K = rl_G m2 fuC fuL L ∧ (m + k + 1 ≤ m2 + k1 ∧ 3000 + d ≤ fuC ∧ 3000 + d ≤ fuL) ∧ rl_r L r C1 k1 ∧ tx_rs L B n p1 ∧ rl_sk L st ∧ rl_q2 r K L := xr
      have lC : (C1 ++ rl_ac a).length = C1.length + (rl_ac a).length := List.length_append
      have lC2 : (C1 ++ rl_ac a ++ rl_oc o).length = C1.length + (rl_ac a).length + (rl_oc o).length := by rw [List.length_append, lC]
      -- the class behind the fact
      have CC : ∀ (M : sd_M) (fu i : Nat), i + m0 ≤ 400 → tx_cs M B n p → rl_c M R C k → ∃ N, fb_X5_readsTest_9 R (f_X5_rc q true) (f_X5_rc q false) (fu + 1) (d : Int) (rl_w1 a) (rl_w1 o) (i : Int) M = fb_X5_readsTest_41 (fb_X5_readsTest_9 R (f_X5_rc q true) (f_X5_rc q false) fu) R (f_X5_rc q true) (f_X5_rc q false) (d : Int) (rl_w1 o) (i : Int) N ∧ tx_cs N B n p1 ∧ rl_c N R (C1 ++ rl_ac a) k1 ∧ rl_f R M N := by
        intro M fu i hi cs rc
        obtain ⟨N, e, csN, rcN, fr⟩ := xc M cs rc
        obtain ⟨N2, e2, rc2, cs2, fr2⟩ := rl_cwd hR 12 a (fb_X5_readsTest_41 (fb_X5_readsTest_9 R (f_X5_rc q true) (f_X5_rc q false) fu) R (f_X5_rc q true) (f_X5_rc q false) (d : Int) (rl_w1 o) (i : Int)) rcN csN (by omega)
        refine ⟨N2, ?_, cs2, rc2, rl_f_tr fr fr2⟩
        rw [← e2, fb_X5_readsTest_9, if_neg (by omega), e, Option.bind_some]
        rfl
      have RR : ∀ (K : sd_M) (st : List Int) (m fuF : Nat), tx_rs K B n p → rl_r K r C k → rl_sk K (rl_aw a ++ (rl_ow o ++ st)) → rl_dp st = d → st.length ≤ 3 * d → 61 ≤ m + k → 12 ≤ fuF + d → ∃ L m2 fuC fuL, rl_F m fuF K = rl_G m2 fuC fuL L ∧ (m + k + 1 ≤ m2 + k1 ∧ 3000 + d ≤ fuC ∧ 3000 + d ≤ fuL) ∧ rl_r L r C1 k1 ∧ tx_rs L B n p1 ∧ rl_sk L (rl_aw a ++ (rl_ow o ++ st)) ∧ rl_q2 r K L := by
        intro K st m fuF rs rr sk hdp hl hm hfu
        have ln := rl_ln_w (a := a) (o := o) (st := st)
        exact xr K _ m fuF rs rr sk (rl_dp_w.trans hdp) (by omega) hm hfu
      have tE : ∀ t : List Bool, (rl_wp a o ++ t).length ≤ k → rl_t (E1 ++ rl_ac a) (rl_wp a o ++ t) = some (true :: (rl_wp false o ++ t)) := by
        intro t ht
        have q1 := t1 (rl_wp a o ++ t) ht
        rw [List.nil_append] at q1
        rw [rl_t_a, q1, Option.bind_some]
        exact rl_t_ac t
      by_cases c1 : tx_kd B n p1 = 614
      · have nb := rl_nxw a3 hbb (by omega)
        have w2 := rl_wd_e (a := true) (o := o)
        have w3 : rl_wd true o = 1 + (rl_oc o).length := by rw [w2.1]; rfl
        obtain ⟨x, ok, oc, orf⟩ := ih (60 - k1) (by omega) k1 true o (tx_nx B n p1) (C1 ++ rl_ac a) (by omega) (by omega) nb.2
        refine ⟨x, rl_p_w ok (fun _ h => h) (fun p2 k2 D h => ?_), fun M fu i hf hi cs rc => ?_, fun K st m fuF rs rr sk hb hdp hl hm hfu => ?_⟩
        · obtain ⟨⟨⟨E, eD, cdE, tE2⟩, ⟨l1, l2, l3⟩, k3, k4⟩, z1, z2⟩ := h
          refine ⟨⟨⟨E1 ++ rl_ac a ++ E, by rw [eD, eC1]; simp [List.append_assoc], rl_cd_a (rl_cd_a cd1 rl_cd_ac) cdE, fun t ht => ?_⟩, ⟨by omega, by omega, l3⟩, by omega, k4⟩, z1, z2⟩
          have q2 := tE2 t (by
            rw [List.length_append] at ht ⊢
            omega)
          rw [rl_t_a, tE t ht, Option.bind_some]
          exact q2
        · obtain ⟨fu, rfl⟩ : ∃ g, fu = g + 1 := ⟨fu - 1, by omega⟩
          obtain ⟨N, e, csN, rcN, frN⟩ := CC M fu i hi cs rc
          obtain ⟨N2, e2, rc2, cs2, fr2⟩ := (rl_41 hR (fb_X5_readsTest_9 R (f_X5_rc q true) (f_X5_rc q false) fu) (f_X5_rc q true) (f_X5_rc q false) (d : Int) o i (by omega) rcN csN (by omega)).1 c1
          have q2 := oc N2 fu (i + 1) (by omega) (by omega) cs2 rc2
          rw [e, e2]
          exact rl_Cl_tr (rl_f_tr frN fr2) q2
        · obtain ⟨L, m2, fuC, fuL, e, ⟨y1, y2, y3⟩, rrL, rsL, skL, fr⟩ := RR K st m fuF rs rr sk hdp hl hm hfu
          obtain ⟨fuC, rfl⟩ : ∃ g, fuC = g + 1 := ⟨fuC - 1, by omega⟩
          obtain ⟨fuL, rfl⟩ : ∃ g, fuL = g + 1 := ⟨fuL - 1, by omega⟩
          obtain ⟨m2, rfl⟩ : ∃ g, m2 = g + 1 := ⟨m2 - 1, by omega⟩
          obtain ⟨L2, e2, z8, rr2, rs2, sk2, fr2⟩ := rl_G_k (m := m2 + 1) (fuC := fuC) (fuL := fuL) rrL rsL skL hb (Or.inl (by omega))
          obtain ⟨L3, e3, rr3, rs3, sk3, fr3⟩ := rl_B_and (m := m2) hr rr2 rs2 z8 sk2 hb (by omega) (by omega) c1
          have q2 := orf L3 st m2 4000 rs3 rr3 sk3 hb hdp hl (by omega) (by omega)
          unfold rl_RT2 at q2 ⊢
          rw [e, e2, e3]
          refine rl_p_w q2 (fun f h => ?_) (fun p2 k2 D h => ?_)
          · obtain ⟨L4, e4, l9, fr4⟩ := h
            exact ⟨L4, e4, l9, rl_q2_tr fr (rl_q2_tr fr2 (rl_q2_tr fr3 fr4))⟩
          · obtain ⟨L4, m4, fc4, fl4, a4, o4, D4, e4, ⟨u1, u2, u3⟩, eD4, rr4, rs4, sk4, fr4⟩ := h
            exact ⟨L4, m4, fc4, fl4, a4, o4, D4, e4, ⟨by omega, u2, u3⟩, eD4, rr4, rs4, sk4, rl_q2_tr fr (rl_q2_tr fr2 (rl_q2_tr fr3 fr4))⟩
      by_cases c2 : tx_kd B n p1 = 615
      · have nb := rl_nxw a3 hbb (by omega)
        have w2 := rl_wd_e (a := false) (o := true)
        have w3 : rl_wd false true = 1 := rfl
        obtain ⟨x, ok, oc, orf⟩ := ih (60 - k1) (by omega) k1 false true (tx_nx B n p1) (C1 ++ rl_ac a ++ rl_oc o) (by omega) (by omega) nb.2
        refine ⟨x, rl_p_w ok (fun _ h => h) (fun p2 k2 D h => ?_), fun M fu i hf hi cs rc => ?_, fun K st m fuF rs rr sk hb hdp hl hm hfu => ?_⟩
        · obtain ⟨⟨⟨E, eD, cdE, tE2⟩, ⟨l1, l2, l3⟩, k3, k4⟩, z1, z2⟩ := h
          refine ⟨⟨⟨E1 ++ rl_ac a ++ rl_oc o ++ E, by rw [eD, eC1]; simp [List.append_assoc], rl_cd_a (rl_cd_a (rl_cd_a cd1 rl_cd_ac) rl_cd_oc) cdE, fun t ht => ?_⟩, ⟨by omega, by omega, l3⟩, by omega, k4⟩, z1, z2⟩
          have q2 := tE2 t (by
            rw [List.length_append] at ht ⊢
            omega)
          rw [rl_t_a, rl_t_a, tE t ht, Option.bind_some, rl_t_oc, Option.bind_some]
          exact q2
        · obtain ⟨fu, rfl⟩ : ∃ g, fu = g + 1 := ⟨fu - 1, by omega⟩
          obtain ⟨N, e, csN, rcN, frN⟩ := CC M fu i hi cs rc
          obtain ⟨N2, e2, rc2, cs2, fr2⟩ := (rl_41 hR (fb_X5_readsTest_9 R (f_X5_rc q true) (f_X5_rc q false) fu) (f_X5_rc q true) (f_X5_rc q false) (d : Int) o i (by omega) rcN csN (by omega)).2.1 c2
          have q2 := oc N2 fu (i + 1) (by omega) (by omega) cs2 rc2
          rw [e, e2]
          exact rl_Cl_tr (rl_f_tr frN fr2) q2
        · obtain ⟨L, m2, fuC, fuL, e, ⟨y1, y2, y3⟩, rrL, rsL, skL, fr⟩ := RR K st m fuF rs rr sk hdp hl hm hfu
          obtain ⟨fuC, rfl⟩ : ∃ g, fuC = g + 1 := ⟨fuC - 1, by omega⟩
          obtain ⟨fuL, rfl⟩ : ∃ g, fuL = g + 1 := ⟨fuL - 1, by omega⟩
          obtain ⟨m2, rfl⟩ : ∃ g, m2 = g + 1 := ⟨m2 - 1, by omega⟩
          obtain ⟨L2, e2, z8, rr2, rs2, sk2, fr2⟩ := rl_G_k (m := m2 + 1) (fuC := fuC) (fuL := fuL) rrL rsL skL hb (Or.inl (by omega))
          obtain ⟨L3, e3, rr3, rs3, sk3, fr3⟩ := rl_B_or (m := m2) hr rr2 rs2 z8 sk2 hb (by omega) (by omega) c2
          have q2 := orf L3 st m2 4000 rs3 rr3 sk3 hb hdp hl (by omega) (by omega)
          unfold rl_RT2 at q2 ⊢
          rw [e, e2, e3]
          refine rl_p_w q2 (fun f h => ?_) (fun p2 k2 D h => ?_)
          · obtain ⟨L4, e4, l9, fr4⟩ := h
            exact ⟨L4, e4, l9, rl_q2_tr fr (rl_q2_tr fr2 (rl_q2_tr fr3 fr4))⟩
          · obtain ⟨L4, m4, fc4, fl4, a4, o4, D4, e4, ⟨u1, u2, u3⟩, eD4, rr4, rs4, sk4, fr4⟩ := h
            exact ⟨L4, m4, fc4, fl4, a4, o4, D4, e4, ⟨by omega, u2, u3⟩, eD4, rr4, rs4, sk4, rl_q2_tr fr (rl_q2_tr fr2 (rl_q2_tr fr3 fr4))⟩
      · refine ⟨.inr (p1, k1, C1 ++ rl_ac a ++ rl_oc o), ⟨⟨⟨E1 ++ rl_ac a ++ rl_oc o, by simp only []; rw [eC1]; simp [List.append_assoc], rl_cd_a (rl_cd_a cd1 rl_cd_ac) rl_cd_oc, fun t ht => ?_⟩, ⟨by simp only []; omega, a2, a3⟩, a4, a5⟩, c1, c2⟩, fun M fu i hf hi cs rc => ?_, fun K st m fuF rs rr sk hb hdp hl hm hfu => ?_⟩
        · rw [rl_t_a, tE t ht, Option.bind_some, rl_t_oc]
        · obtain ⟨fu, rfl⟩ : ∃ g, fu = g + 1 := ⟨fu - 1, by omega⟩
          obtain ⟨N, e, csN, rcN, frN⟩ := CC M fu i hi cs rc
          obtain ⟨N2, e2, rc2, cs2, fr2⟩ := (rl_41 hR (fb_X5_readsTest_9 R (f_X5_rc q true) (f_X5_rc q false) fu) (f_X5_rc q true) (f_X5_rc q false) (d : Int) o i (by omega) rcN csN (by omega)).2.2 c1 c2
          refine ⟨N2, ?_, cs2, rc2, rl_f_tr frN fr2⟩
          rw [e, e2]
        · obtain ⟨L, m2, fuC, fuL, e, ⟨y1, y2, y3⟩, rrL, rsL, skL, fr⟩ := RR K st m fuF rs rr sk hdp hl hm hfu
          exact ⟨L, m2, fuC, fuL, a, o, C1, e, ⟨y1, y2, y3⟩, rfl, rrL, rsL, skL, fr⟩
