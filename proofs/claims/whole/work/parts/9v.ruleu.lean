/-! facts and tests: the claims -/
theorem rl_f1 {p w : Nat} : 0 < sl_f p w := by
  unfold sl_f
  omega
theorem rl_T_of {B : Nat → Int} {n R r : Nat} (hbb : ∀ j, j < n → -128 ≤ B j ∧ B j < 128) (n4 : n ≤ 400) (hR : 16 ≤ R) (hr : r < 6) {q d : Nat} (hd : d ≤ 10) (hF : rl_CF B n R r q d) : rl_CT B n R r (q + 1) d := by
  intro p k C hk hC hp
  obtain ⟨x, h1, h2, h3⟩ := rl_TL hbb n4 hR hr hd hF (60 - k) k false false p C (by omega) (by rw [show rl_wd false false = 0 from rfl]; omega) hp
  refine ⟨x, h1, fun M cs rc => ?_, fun K st m fuF rs rr sk hb hdp hl hm hfu => h3 K st m fuF rs rr sk hb hdp hl hm hfu⟩
  have q1 := h2 M 4000 0 (by omega) (by omega) cs rc
  exact q1
/-- a comparison -/
theorem rl_F_else {B : Nat → Int} {n R r : Nat} (hbb : ∀ j, j < n → -128 ≤ B j ∧ B j < 128) (n4 : n ≤ 400) (hR : 16 ≤ R) (hr : r < 6) {q d : Nat} (hd : d ≤ 10) {p k : Nat} {C : List (Int × Int)} (hk : k ≤ 60) (hC : C.length < p) (hp : p ≤ n) (c1 : tx_kd B n p ≠ 616) (c2 : tx_kd B n p ≠ 91) : ∃ x : rl_R, rl_p x (fun f => 0 < f) (rl_ok n p k 0 [] true C) ∧ (∀ M : sd_M, tx_cs M B n p → rl_c M R C k → rl_Cl B n R x M (f_X5_rc (q + 1) false R (d : Int) M)) ∧ ∀ (K : sd_M) (st : List Int) (m fuF : Nat), tx_rs K B n p → rl_r K r C k → rl_sk K st → rl_dp st = d → st.length ≤ 3 * d + 2 → 61 ≤ m + k → 12 ≤ fuF + d → rl_RF B n r d x K m k fuF st := by
  obtain ⟨x, xk, xc, xr⟩ := rl_cp (R := R) (r := r) hbb n4 hR hr hk hC hp
  have run : ∀ M : sd_M, tx_cs M B n p → f_X5_rc (q + 1) false R (d : Int) M = ((f_X5_readsComparison R M).bind fun r4 => if r4.1 = 0 ∨ r4.1 = 1 then some (r4.1, r4.2) else none) := by
    intro M cs
    rw [f_X5_rc]
    unfold fb_X5_readsFact
    rw [tx_kind cs, Option.bind_some]
    simp only []
    rw [if_neg c1, if_neg c2]
  have rf : ∀ (K : sd_M) (st : List Int) (m fuF : Nat), tx_rs K B n p → rl_r K r C k → rl_sk K st → 12 ≤ fuF + d → rl_p x (fun f => ∃ L, rl_F m fuF K = some (0, L) ∧ L 331 9 = f ∧ rl_q2 r K L) (fun p2 kk D => ∃ L, rl_F m fuF K = rl_G m 4000 4000 L ∧ rl_r L r D kk ∧ tx_rs L B n p2 ∧ rl_sk L st ∧ rl_q2 r K L) := by
    intro K st m fuF rs rr sk hfu
    obtain ⟨fu, rfl⟩ : ∃ g, fuF = g + 2 := ⟨fuF - 2, by omega⟩
    exact rl_F_cmp rr rs sk c1 c2 xr
  cases x with
  | inl f =>
    refine ⟨.inl f, xk, fun M cs rc => ?_, fun K st m fuF rs rr sk hdp hl hm hfu => rf K st m fuF rs rr sk hfu⟩
    obtain ⟨N, e, n2, fr⟩ := xc M cs rc
    refine ⟨N, ?_, n2, fr⟩
    rw [run M cs, e, Option.bind_some]
    rfl
  | inr y =>
    obtain ⟨p1, k1, C1⟩ := y
    have a4 : k < k1 := xk.2.2.1
    refine ⟨.inr (p1, k1, C1), xk, fun M cs rc => ?_, fun K st m fuF rs rr sk hdp hl hm hfu => ?_⟩
    · obtain ⟨N, e, csN, rcN, fr⟩ := xc M cs rc
      refine ⟨N, ?_, csN, rcN, fr⟩
      rw [run M cs, e, Option.bind_some]
      rfl
    · obtain ⟨L, e, rrL, rsL, skL, fr⟩ := rf K st m fuF rs rr sk hfu
      exact ⟨L, m, 4000, 4000, e, ⟨by simp only []; omega, by omega, by omega⟩, rrL, rsL, skL, fr⟩
/-- too deep -/
theorem rl_F_deep {B : Nat → Int} {n R r : Nat} (n4 : n ≤ 400) (hR : 16 ≤ R) {q d : Nat} (hd : d = 10) {p k : Nat} {C : List (Int × Int)} (c : tx_kd B n p = 616 ∨ tx_kd B n p = 91) : ∃ x : rl_R, rl_p x (fun f => 0 < f) (rl_ok n p k 0 [] true C) ∧ (∀ M : sd_M, tx_cs M B n p → rl_c M R C k → rl_Cl B n R x M (f_X5_rc (q + 1) false R (d : Int) M)) ∧ ∀ (K : sd_M) (st : List Int) (m fuF : Nat), tx_rs K B n p → rl_r K r C k → rl_sk K st → rl_dp st = d → st.length ≤ 3 * d + 2 → 61 ≤ m + k → 12 ≤ fuF + d → rl_RF B n r d x K m k fuF st := by
  refine ⟨.inl (sl_f p 2), rl_f1, fun M cs rc => ?_, fun K st m fuF rs rr sk hdp hl hm hfu => ?_⟩
  · obtain ⟨N, e, n2, fr⟩ := rl_f0 hR cs (w := 2) (by omega)
    refine ⟨N, ?_, n2, fr⟩
    have e28 : ∀ v, fb_X5_readsFact_28 R (f_X5_rc q true) (f_X5_rc q false) (d : Int) v M = some (0, N) := by
      intro v
      unfold fb_X5_readsFact_28
      rw [if_neg (by omega)]
      exact e
    rw [f_X5_rc]
    unfold fb_X5_readsFact
    rw [tx_kind cs, Option.bind_some]
    simp only []
    rcases c with h | h
    · rw [if_pos h, e28]
    · rw [if_neg (by omega), if_pos h, e28]
  · obtain ⟨fu, rfl⟩ : ∃ g, fuF = g + 1 := ⟨fuF - 1, by omega⟩
    rcases c with h | h
    · exact (rl_F_not rr rs sk (by omega) h).1 (by omega)
    · exact (rl_F_br rr rs sk (by omega) h).1 (by omega)
/-- a not -/
theorem rl_F_n {B : Nat → Int} {n R r : Nat} (hbb : ∀ j, j < n → -128 ≤ B j ∧ B j < 128) (n4 : n ≤ 400) (hR : 16 ≤ R) (hr : r < 6) {q d : Nat} (hd : d < 10) (hF : rl_CF B n R r q (d + 1)) {p k : Nat} {C : List (Int × Int)} (hk : k ≤ 60) (hC : C.length < p) (hp : p ≤ n) (c : tx_kd B n p = 616) : ∃ x : rl_R, rl_p x (fun f => 0 < f) (rl_ok n p k 0 [] true C) ∧ (∀ M : sd_M, tx_cs M B n p → rl_c M R C k → rl_Cl B n R x M (f_X5_rc (q + 1) false R (d : Int) M)) ∧ ∀ (K : sd_M) (st : List Int) (m fuF : Nat), tx_rs K B n p → rl_r K r C k → rl_sk K st → rl_dp st = d → st.length ≤ 3 * d + 2 → 61 ≤ m + k → 12 ≤ fuF + d → rl_RF B n r d x K m k fuF st := by
  have nb := rl_nxw hp hbb (by omega)
  obtain ⟨x, xk, xc, xr⟩ := hF (tx_nx B n p) k C hk (by omega) nb.2
  have run : ∀ M : sd_M, tx_cs M B n p → rl_c M R C k → ∃ N, tx_cs N B n (tx_nx B n p) ∧ rl_c N R C k ∧ rl_f R M N ∧ f_X5_rc (q + 1) false R (d : Int) M = ((f_X5_rc q false R ((d + 1 : Nat) : Int) N).bind fun r11 => if r11.1 = 0 then (some (0, r11.2)) else ((f_X4_add R 14 0 r11.2).bind fun r13 => some (1, r13.2))) := by
    intro M cs rc
    obtain ⟨N, e, csN, a1, a2⟩ := tx_step cs
    refine ⟨N, csN, rl_st_c hR ⟨a1, a2⟩ rc, rl_st_f hR ⟨a1, a2⟩, ?_⟩
    rw [f_X5_rc]
    unfold fb_X5_readsFact
    rw [tx_kind cs, Option.bind_some]
    simp only []
    rw [if_pos c, c]
    unfold fb_X5_readsFact_28
    rw [if_pos (by omega), e, Option.bind_some]
    simp only []
    rw [if_pos trivial, sd_wid (by omega) (by omega)]
    rfl
  have rf : ∀ (K : sd_M) (st : List Int) (m fuF : Nat), tx_rs K B n p → rl_r K r C k → rl_sk K st → rl_dp st = d → st.length ≤ 3 * d + 2 → 61 ≤ m + k → 12 ≤ fuF + d → ∃ L fu, rl_F m fuF K = rl_F m fu L ∧ rl_q2 r K L ∧ rl_RF B n r (d + 1) x L m k fu (11 :: st) := by
    intro K st m fuF rs rr sk hdp hl hm hfu
    obtain ⟨fu, rfl⟩ : ∃ g, fuF = g + 1 := ⟨fuF - 1, by omega⟩
    obtain ⟨L, e, rrL, rsL, skL, fr⟩ := (rl_F_not (m := m) (fu := fu) rr rs sk (by omega) c).2 (by omega)
    exact ⟨L, fu, e, fr, xr L (11 :: st) m fu rsL rrL skL (by rw [rl_dp, if_pos (Or.inl rfl), hdp]) (by rw [List.length_cons]; omega) hm (by omega)⟩
  cases x with
  | inl f =>
    refine ⟨.inl f, xk, fun M cs rc => ?_, fun K st m fuF rs rr sk hdp hl hm hfu => ?_⟩
    · obtain ⟨N, csN, rcN, fr, e⟩ := run M cs rc
      obtain ⟨N2, e2, n2, fr2⟩ := xc N csN rcN
      refine ⟨N2, ?_, n2, rl_f_tr fr fr2⟩
      rw [e, e2, Option.bind_some]
      rfl
    · obtain ⟨L, fu, e, fr, L2, e2, l9, fr2⟩ := rf K st m fuF rs rr sk hdp hl hm hfu
      exact ⟨L2, by rw [e, e2], l9, rl_q2_tr fr fr2⟩
  | inr y =>
    obtain ⟨p1, k1, C1⟩ := y
    obtain ⟨⟨E1, eC1, cd1, t1⟩, ⟨a1, a2, a3⟩, a4, a5⟩ := xk
    simp only [] at eC1 a1 a2 a3 a4 a5
    have lD : (C1 ++ [((14 : Int), (0 : Int))]).length = C1.length + 1 := by rw [List.length_append]; rfl
    refine ⟨.inr (p1, k1, C1 ++ [(14, 0)]), ⟨⟨E1 ++ [(14, 0)], by simp only []; rw [eC1]; simp [List.append_assoc], rl_cd_a cd1 (fun x hx => ?_), fun t ht => ?_⟩, ⟨by simp only []; omega, by simp only []; omega, a3⟩, a4, a5⟩, fun M cs rc => ?_, fun K st m fuF rs rr sk hdp hl hm hfu => ?_⟩
    · rw [List.mem_singleton.mp hx]
      simp only []
      omega
    · have q1 := t1 t ht
      rw [rl_t_a, q1, Option.bind_some, rl_t]
      rw [show (((14 : Int), (0 : Int)).1) = 14 from rfl, show (((14 : Int), (0 : Int)).2) = 0 from rfl, rl_t_n, Option.bind_some, rl_t]
    · obtain ⟨N, csN, rcN, fr, e⟩ := run M cs rc
      obtain ⟨N2, e2, cs2, rc2, fr2⟩ := xc N csN rcN
      obtain ⟨N3, e3, rc3, fr3, lo3⟩ := rl_add hR rc2 (by simp only []; omega) 14 0
      refine ⟨N3, ?_, rl_add_cs cs2 lo3, rc3, rl_f_tr fr (rl_f_tr fr2 fr3)⟩
      rw [e, e2, Option.bind_some]
      simp only []
      rw [if_neg (show ¬ (1 : Int) = 0 by decide), e3, Option.bind_some]
    · obtain ⟨L, fu, e, fr, L2, m2, fuC, fuL, e2, ⟨y1, y2, y3⟩, rr2, rs2, sk2, fr2⟩ := rf K st m fuF rs rr sk hdp hl hm hfu
      obtain ⟨fuL, rfl⟩ : ∃ g, fuL = g + 1 := ⟨fuL - 1, by omega⟩
      obtain ⟨L3, e3, rr3, rs3, sk3, fr3⟩ := rl_G_not (m := m2) (fuC := fuC) (fuL := fuL) hr rr2 rs2 sk2 (by simp only []; omega)
      exact ⟨L3, m2, fuC, fuL, by rw [e, e2, e3], ⟨y1, by omega, by omega⟩, rr3, rs3, sk3, rl_q2_tr fr (rl_q2_tr fr2 fr3)⟩
/-- a bracket -/
theorem rl_F_b {B : Nat → Int} {n R r : Nat} (hbb : ∀ j, j < n → -128 ≤ B j ∧ B j < 128) (n4 : n ≤ 400) (hR : 16 ≤ R) (hr : r < 6) {q d : Nat} (hd : d < 10) (hT : rl_CT B n R r q (d + 1)) {p k : Nat} {C : List (Int × Int)} (hk : k ≤ 60) (hC : C.length < p) (hp : p ≤ n) (c : tx_kd B n p = 91) : ∃ x : rl_R, rl_p x (fun f => 0 < f) (rl_ok n p k 0 [] true C) ∧ (∀ M : sd_M, tx_cs M B n p → rl_c M R C k → rl_Cl B n R x M (f_X5_rc (q + 1) false R (d : Int) M)) ∧ ∀ (K : sd_M) (st : List Int) (m fuF : Nat), tx_rs K B n p → rl_r K r C k → rl_sk K st → rl_dp st = d → st.length ≤ 3 * d + 2 → 61 ≤ m + k → 12 ≤ fuF + d → rl_RF B n r d x K m k fuF st := by
  have S := tx_sg (B := B) (n := n) (p := p) hbb (s := 91) (by omega) (by omega) (by omega) (by omega)
  have nb := rl_nx0 (B := B) (S.2 c).1
  obtain ⟨x, xk, xc, xr⟩ := hT (tx_nx B n p) k C hk (by omega) nb.2
  have run : ∀ M : sd_M, tx_cs M B n p → rl_c M R C k → ∃ N, tx_cs N B n (tx_nx B n p) ∧ rl_c N R C k ∧ rl_f R M N ∧ f_X5_rc (q + 1) false R (d : Int) M = ((f_X5_rc q true R ((d + 1 : Nat) : Int) N).bind fun r4 => if r4.1 = 0 then (some (0, r4.2)) else ((f_X7_kind r4.2).bind fun r6 => if r6.1 = 93 then ((f_X7_step r6.2).bind fun r8 => some (1, r8.2)) else ((f_X7_fails 0 r6.2).bind fun r9 => if r9.1 = 0 ∨ r9.1 = 1 then some (r9.1, r9.2) else none))) := by
    intro M cs rc
    obtain ⟨N, e, csN, a1, a2⟩ := tx_step cs
    refine ⟨N, csN, rl_st_c hR ⟨a1, a2⟩ rc, rl_st_f hR ⟨a1, a2⟩, ?_⟩
    rw [f_X5_rc]
    unfold fb_X5_readsFact
    rw [tx_kind cs, Option.bind_some]
    simp only []
    rw [if_neg (by omega), if_pos c, c]
    unfold fb_X5_readsFact_28
    rw [if_pos (by omega), e, Option.bind_some]
    simp only []
    rw [if_neg (by decide), sd_wid (by omega) (by omega)]
    rfl
  have rf : ∀ (K : sd_M) (st : List Int) (m fuF : Nat), tx_rs K B n p → rl_r K r C k → rl_sk K st → rl_dp st = d → st.length ≤ 3 * d + 2 → 61 ≤ m + k → 12 ≤ fuF + d → ∃ L fu, rl_F m fuF K = rl_F m fu L ∧ rl_q2 r K L ∧ rl_RT2 B n r (d + 1) x L m k fu (91 :: st) := by
    intro K st m fuF rs rr sk hdp hl hm hfu
    obtain ⟨fu, rfl⟩ : ∃ g, fuF = g + 1 := ⟨fuF - 1, by omega⟩
    obtain ⟨L, e, rrL, rsL, skL, fr⟩ := (rl_F_br (m := m) (fu := fu) rr rs sk (by omega) c).2 (by omega)
    exact ⟨L, fu, e, fr, xr L (91 :: st) m fu rsL rrL skL (Or.inr ⟨st, rfl⟩) (by rw [rl_dp, if_pos (Or.inr rfl), hdp]) (by rw [List.length_cons]; omega) hm (by omega)⟩
  cases x with
  | inl f =>
    refine ⟨.inl f, xk, fun M cs rc => ?_, fun K st m fuF rs rr sk hdp hl hm hfu => ?_⟩
    · obtain ⟨N, csN, rcN, fr, e⟩ := run M cs rc
      obtain ⟨N2, e2, n2, fr2⟩ := xc N csN rcN
      refine ⟨N2, ?_, n2, rl_f_tr fr fr2⟩
      rw [e, e2, Option.bind_some]
      rfl
    · obtain ⟨L, fu, e, fr, L2, e2, l9, fr2⟩ := rf K st m fuF rs rr sk hdp hl hm hfu
      exact ⟨L2, by rw [e, e2], l9, rl_q2_tr fr fr2⟩
  | inr y =>
    obtain ⟨p1, k1, C1⟩ := y
    obtain ⟨⟨⟨E1, eC1, cd1, t1⟩, ⟨a1, a2, a3⟩, a4, a5⟩, z1, z2⟩ := xk
    simp only [] at eC1 a1 a2 a3 a4 a5 z1 z2
    rw [show rl_wd false false = 0 from rfl] at a1
    have lb : ∀ (a o : Bool) (D0 : List (Int × Int)), C1 = D0 ++ rl_ac a ++ rl_oc o → D0.length ≤ C1.length := by
      intro a o D0 e
      rw [e, List.length_append, List.length_append]
      omega
    by_cases c2 : tx_kd B n p1 = 93
    · have S2 := tx_sg (B := B) (n := n) (p := p1) hbb (s := 93) (by omega) (by omega) (by omega) (by omega)
      have nb2 := rl_nx0 (B := B) (S2.2 c2).1
      refine ⟨.inr (tx_nx B n p1, k1, C1), ⟨⟨E1, eC1, cd1, t1⟩, ⟨by simp only []; omega, by simp only []; omega, nb2.2⟩, a4, a5⟩, fun M cs rc => ?_, fun K st m fuF rs rr sk hdp hl hm hfu => ?_⟩
      · obtain ⟨N, csN, rcN, fr, e⟩ := run M cs rc
        obtain ⟨N2, e2, cs2, rc2, fr2⟩ := xc N csN rcN
        obtain ⟨N3, e3, cs3, b1, b2⟩ := tx_step cs2
        refine ⟨N3, ?_, cs3, rl_st_c hR ⟨b1, b2⟩ rc2, rl_f_tr fr (rl_f_tr fr2 (rl_st_f hR ⟨b1, b2⟩))⟩
        rw [e, e2, Option.bind_some]
        simp only []
        rw [if_neg (show ¬ (1 : Int) = 0 by decide), tx_kind cs2, Option.bind_some]
        simp only []
        rw [if_pos c2, e3, Option.bind_some]
      · obtain ⟨L, fu, e, fr, L2, m2, fuC, fuL, a0, o0, D0, e2, ⟨y1, y2, y3⟩, eD, rr2, rs2, sk2, fr2⟩ := rf K st m fuF rs rr sk hdp hl hm hfu
        simp only [] at eD y1 rs2
        have lD := lb a0 o0 D0 eD
        obtain ⟨fuL, rfl⟩ : ∃ g, fuL = g + 1 := ⟨fuL - 1, by omega⟩
        obtain ⟨fuC, rfl⟩ : ∃ g, fuC = g + 1 := ⟨fuC - 1, by omega⟩
        obtain ⟨L3, e3, rr3, rs3, sk3, fr3⟩ := rl_G_br (m := m2) (fuC := fuC) (fuL := fuL) hr rr2 rs2 sk2 (by omega) c2
        exact ⟨L3, m2, fuC, 4000, by rw [e, e2, e3], ⟨y1, by omega, by omega⟩, by rw [eD]; exact rr3, rs3, sk3, rl_q2_tr fr (rl_q2_tr fr2 fr3)⟩
    · refine ⟨.inl (sl_f p1 0), rl_f1, fun M cs rc => ?_, fun K st m fuF rs rr sk hdp hl hm hfu => ?_⟩
      · obtain ⟨N, csN, rcN, fr, e⟩ := run M cs rc
        obtain ⟨N2, e2, cs2, rc2, fr2⟩ := xc N csN rcN
        obtain ⟨N3, e3, n3, fr3⟩ := rl_f0 hR cs2 (w := 0) (by omega)
        refine ⟨N3, ?_, n3, rl_f_tr fr (rl_f_tr fr2 fr3)⟩
        rw [e, e2, Option.bind_some]
        simp only []
        rw [if_neg (show ¬ (1 : Int) = 0 by decide), tx_kind cs2, Option.bind_some]
        simp only []
        rw [if_neg c2]
        exact e3
      · obtain ⟨L, fu, e, fr, L2, m2, fuC, fuL, a0, o0, D0, e2, ⟨y1, y2, y3⟩, eD, rr2, rs2, sk2, fr2⟩ := rf K st m fuF rs rr sk hdp hl hm hfu
        simp only [] at eD y1 rs2
        have lD := lb a0 o0 D0 eD
        obtain ⟨fuL, rfl⟩ : ∃ g, fuL = g + 1 := ⟨fuL - 1, by omega⟩
        obtain ⟨fuC, rfl⟩ : ∃ g, fuC = g + 1 := ⟨fuC - 1, by omega⟩
        obtain ⟨m2, rfl⟩ : ∃ g, m2 = g + 1 := ⟨m2 - 1, by omega⟩
        have hb : rl_b0 (91 :: st) := Or.inr ⟨st, rfl⟩
        obtain ⟨L3, e3, z8, rr3, rs3, sk3, fr3⟩ := rl_G_k (m := m2 + 1) (fuC := fuC) (fuL := fuL) rr2 rs2 sk2 hb (Or.inl c2)
        obtain ⟨L4, e4, l9, fr4⟩ := (rl_B_end (m := m2) hr rr3 rs3 z8 sk3 hb (by omega) z1 z2).2 (by simp)
        exact ⟨L4, by rw [e, e2, e3, e4], l9, rl_q2_tr fr (rl_q2_tr fr2 (rl_q2_tr fr3 fr4))⟩
theorem rl_FT {B : Nat → Int} {n R r : Nat} (hbb : ∀ j, j < n → -128 ≤ B j ∧ B j < 128) (n4 : n ≤ 400) (hR : 16 ≤ R) (hr : r < 6) : ∀ q : Nat, (∀ d, d ≤ 10 → 2 * (10 - d) + 1 ≤ q → rl_CF B n R r q d) ∧ (∀ d, d ≤ 10 → 2 * (10 - d) + 2 ≤ q → rl_CT B n R r q d) := by
  intro q
  induction q with
  | zero => exact ⟨fun d _ h => by omega, fun d _ h => by omega⟩
  | succ q ih =>
    refine ⟨fun d hd h => ?_, fun d hd h => rl_T_of hbb n4 hR hr hd (ih.1 d hd (by omega))⟩
    intro p k C hk hC hp
    by_cases c1 : tx_kd B n p = 616
    · by_cases c3 : d = 10
      · exact rl_F_deep n4 hR c3 (Or.inl c1)
      · exact rl_F_n hbb n4 hR hr (by omega) (ih.1 (d + 1) (by omega) (by omega)) hk hC hp c1
    by_cases c2 : tx_kd B n p = 91
    · by_cases c3 : d = 10
      · exact rl_F_deep n4 hR c3 (Or.inr c2)
      · exact rl_F_b hbb n4 hR hr (by omega) (ih.2 (d + 1) (by omega) (by omega)) hk hC hp c2
    · exact rl_F_else hbb n4 hR hr hd hk hC hp c1 c2
/-- a test, in both -/
theorem rl_test {B : Nat → Int} {n R r : Nat} (hbb : ∀ j, j < n → -128 ≤ B j ∧ B j < 128) (n4 : n ≤ 400) (hR : 16 ≤ R) (hr : r < 6) {p k : Nat} {C : List (Int × Int)} (hk : k ≤ 60) (hC : C.length + 1 < p) (hp : p ≤ n) : ∃ x : rl_R, rl_p x (fun f => 0 < f) (rl_ok n p k 0 [] true C) ∧ (∀ M : sd_M, tx_cs M B n p → rl_c M R C k → rl_Cl B n R x M (f_X5_readsTest R 0 M)) ∧ ∀ K : sd_M, tx_rs K B n p → rl_r K r C k → rl_p x (fun f => ∃ L, f_X10_tested K = some (0, L) ∧ L 331 9 = f ∧ rl_q2 r K L) (fun p2 k2 D => ∃ L, f_X10_tested K = some (1, L) ∧ tx_rs L B n p2 ∧ rl_r L r D k2 ∧ rl_q2 r K L) := by
  obtain ⟨x, xk, xc, xr⟩ := (rl_FT (R := R) (r := r) hbb n4 hR hr 40).2 0 (by omega) (by omega) p k C hk (by omega) hp
  have rf : ∀ K : sd_M, tx_rs K B n p → rl_r K r C k → ∃ L, f_X10_tested K = rl_F 3999 4000 L ∧ rl_q2 r K L ∧ rl_RT2 B n r 0 x L 3999 k 4000 [] := by
    intro K rs rr
    refine ⟨sd_s (sd_s K 331 16 0) 331 13 0, rl_F0, rl_q2_tr (rl_q2_s (by omega)) (rl_q2_s (by omega)), xr _ [] 3999 4000 (tx_rs_c rs ?_ ?_ ?_) (rl_r_c rr ?_ ?_ ?_ ?_ ?_) ⟨?_, trivial, ?_, by decide⟩ (Or.inl rfl) rfl (by decide) (by omega) (by omega)⟩
    · rw [sd_s_j (by omega), sd_s_j (by omega)]
    · rw [sd_s_j (by omega), sd_s_j (by omega)]
    · rw [sd_s_a (by omega), sd_s_a (by omega)]
    · rw [sd_s_j (by omega), sd_s_j (by omega)]
    · rw [sd_s_j (by omega), sd_s_j (by omega)]
      exact rr.1.2.1
    · rw [sd_s_j (by omega), sd_s_j (by omega)]
      exact rr.1.2.2
    · rw [sd_s_a (by omega), sd_s_a (by omega)]
    · rw [sd_s_a (by omega), sd_s_a (by omega)]
    · rw [sd_s_j (by omega), sd_s_at]
      rfl
    · rw [sd_s_at]
      rfl
  cases x with
  | inl f =>
    refine ⟨.inl f, xk, xc, fun K rs rr => ?_⟩
    obtain ⟨L, e, fr, L2, e2, l9, fr2⟩ := rf K rs rr
    exact ⟨L2, by rw [e, e2], l9, rl_q2_tr fr fr2⟩
  | inr y =>
    obtain ⟨p1, k1, C1⟩ := y
    obtain ⟨⟨⟨E1, eC1, cd1, t1⟩, ⟨a1, a2, a3⟩, a4, a5⟩, z1, z2⟩ := xk
    simp only [] at eC1 a1 a2 a3 a4 a5 z1 z2
    rw [show rl_wd false false = 0 from rfl] at a1
    refine ⟨.inr (p1, k1, C1), ⟨⟨E1, eC1, cd1, t1⟩, ⟨a1, a2, a3⟩, a4, a5⟩, xc, fun K rs rr => ?_⟩
    obtain ⟨L, e, fr, L2, m2, fuC, fuL, a0, o0, D0, e2, ⟨y1, y2, y3⟩, eD, rr2, rs2, sk2, fr2⟩ := rf K rs rr
    simp only [] at eD y1 rs2
    have lD : D0.length ≤ C1.length := by
      rw [eD, List.length_append, List.length_append]
      omega
    obtain ⟨fuL, rfl⟩ : ∃ g, fuL = g + 1 := ⟨fuL - 1, by omega⟩
    obtain ⟨fuC, rfl⟩ : ∃ g, fuC = g + 1 := ⟨fuC - 1, by omega⟩
    obtain ⟨m2, rfl⟩ : ∃ g, m2 = g + 1 := ⟨m2 - 1, by omega⟩
    have hb : rl_b0 ([] : List Int) := Or.inl rfl
    obtain ⟨L3, e3, z8, rr3, rs3, sk3, fr3⟩ := rl_G_k (m := m2 + 1) (fuC := fuC) (fuL := fuL) rr2 rs2 sk2 hb (Or.inr rfl)
    obtain ⟨L4, e4, rr4, rs4, fr4⟩ := (rl_B_end (m := m2) hr rr3 rs3 z8 sk3 hb (by omega) z1 z2).1 rfl
    exact ⟨L4, by rw [e, e2, e3, e4], rs4, by rw [eD]; exact rr4, rl_q2_tr fr (rl_q2_tr fr2 (rl_q2_tr fr3 fr4))⟩
