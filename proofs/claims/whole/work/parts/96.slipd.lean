/-! a clause of a slip, in the class; what holds of the row -/
theorem sl_f0 {M : sd_M} {B : Nat → Int} {n p : Nat} (cs : tx_cs M B n p) {w : Nat} (hw : w < 8) : ∃ N, ((f_X7_fails (w : Int) M).bind fun r1 => if r1.1 = 0 ∨ r1.1 = 1 then some (r1.1, r1.2) else none) = some (0, N) ∧ N 1 2 = sl_f p w ∧ sl_fr M N := by
  refine ⟨sd_s M 1 2 ((1 + 8 * p + w : Nat) : Int), ?_, sd_s_at, sl_f2_fr⟩
  rw [tx_fails cs hw, Option.bind_some]
  rfl
theorem sl_c_o {M : sd_M} {B : Nat → Int} {n p : Nat} {R : Nat → Int} (cs : tx_cs M B n p) (tg : sl_tg M R) (tl : ms_tl R) (h9 : R 2 < 9) : sl_p (sl_o B n R p) (fun f => ∃ N, f_X6_readsOffer M = some (0, N) ∧ N 1 2 = f ∧ sl_fr M N) (fun p2 R2 => ∃ N, f_X6_readsOffer M = some (1, N) ∧ tx_cs N B n p2 ∧ sl_tg N R2 ∧ sl_fr M N) := by
  unfold sl_o f_X6_readsOffer
  by_cases c1 : tx_ok B n p 1 999
  · rw [if_pos c1]
    obtain ⟨N1, e1, cs1, st1, v1⟩ := (cl_number cs (lo := 1) (hi := 999) (by omega)).1 c1
    have k := cl_number cs1 (lo := 0) (hi := 1) (by omega)
    rw [e1, Option.bind_some]
    simp only []
    rw [if_neg v1]
    by_cases c2 : tx_ok B n (tx_nx B n p) 0 1
    · rw [if_pos c2]
      obtain ⟨N2, e2, cs2, st2, v2⟩ := k.1 c2
      rw [e2, Option.bind_some]
      simp only []
      rw [if_neg v2]
      obtain ⟨N3, e3, t3, f3⟩ := sl_addOffer (sl_tg_st tg (sl_st_tr st1 st2)) tl h9 (tx_vl B n p) (tx_vl B n (tx_nx B n p))
      rw [e3, Option.bind_some]
      exact ⟨N3, rfl, tx_cs_c cs2 (fun j _ => by rw [f3 1 (by omega)]) (f3 3 (by omega)) (f3 4 (by omega)) (f3 5 (by omega)), t3, sl_fr_tr (sl_st_fr (sl_st_tr st1 st2)) ⟨fun a _ x => f3 a x, fun j _ _ => by rw [f3 1 (by omega)]⟩⟩
    · rw [if_neg c2]
      obtain ⟨N2, e2, n2, fr2⟩ := k.2 c2
      rw [e2, Option.bind_some]
      exact ⟨N2, rfl, n2, sl_fr_tr (sl_st_fr st1) fr2⟩
  · rw [if_neg c1]
    obtain ⟨N1, e1, n1, fr1⟩ := (cl_number cs (lo := 1) (hi := 999) (by omega)).2 c1
    rw [e1, Option.bind_some]
    exact ⟨N1, rfl, n1, fr1⟩
theorem sl_c_n {M : sd_M} {B : Nat → Int} {n p : Nat} {R : Nat → Int} (cs : tx_cs M B n p) (tg : sl_tg M R) (tl : ms_tl R) (h12 : R 3 < 12) : sl_p (sl_n B n R p) (fun f => ∃ N, f_X6_readsNeed M = some (0, N) ∧ N 1 2 = f ∧ sl_fr M N) (fun p2 R2 => ∃ N, f_X6_readsNeed M = some (1, N) ∧ tx_cs N B n p2 ∧ sl_tg N R2 ∧ sl_fr M N) := by
  unfold sl_n f_X6_readsNeed
  have b2 := tl.2.1
  rw [tg.1.2.2.1, sd_wid (by omega) (by omega)]
  by_cases c1 : tx_ok B n p 0 (R 2 - 1)
  · rw [if_pos c1]
    obtain ⟨N1, e1, cs1, st1, v1⟩ := (cl_number cs (lo := 0) (hi := R 2 - 1) (by omega)).1 c1
    have k := cl_number cs1 (lo := 0) (hi := 5) (by omega)
    rw [e1, Option.bind_some]
    simp only []
    rw [if_neg v1]
    by_cases c2 : tx_ok B n (tx_nx B n p) 0 5
    · rw [if_pos c2]
      obtain ⟨N2, e2, cs2, st2, v2⟩ := k.1 c2
      have k2 := cl_number cs2 (lo := 0) (hi := 999) (by omega)
      rw [e2, Option.bind_some]
      simp only []
      rw [if_neg v2]
      by_cases c3 : tx_ok B n (tx_nx B n (tx_nx B n p)) 0 999
      · rw [if_pos c3]
        obtain ⟨N4, e4, cs4, st4, v4⟩ := k2.1 c3
        rw [e4, Option.bind_some]
        simp only []
        rw [if_neg v4]
        have st := sl_st_tr st1 (sl_st_tr st2 st4)
        obtain ⟨N3, e3, t3, f3⟩ := sl_addNeed (sl_tg_st tg st) tl h12 (v := tx_vl B n p) (w := tx_vl B n (tx_nx B n p)) (x := tx_vl B n (tx_nx B n (tx_nx B n p))) (by have := c1.2; omega)
        rw [e3, Option.bind_some]
        exact ⟨N3, rfl, tx_cs_c cs4 (fun j _ => by rw [f3 1 (by omega)]) (f3 3 (by omega)) (f3 4 (by omega)) (f3 5 (by omega)), t3, sl_fr_tr (sl_st_fr st) ⟨fun a _ x => f3 a x, fun j _ _ => by rw [f3 1 (by omega)]⟩⟩
      · rw [if_neg c3]
        obtain ⟨N4, e4, n4, fr4⟩ := k2.2 c3
        rw [e4, Option.bind_some]
        exact ⟨N4, rfl, n4, sl_fr_tr (sl_st_fr (sl_st_tr st1 st2)) fr4⟩
    · rw [if_neg c2]
      obtain ⟨N2, e2, n2, fr2⟩ := k.2 c2
      rw [e2, Option.bind_some]
      exact ⟨N2, rfl, n2, sl_fr_tr (sl_st_fr st1) fr2⟩
  · rw [if_neg c1]
    obtain ⟨N1, e1, n1, fr1⟩ := (cl_number cs (lo := 0) (hi := R 2 - 1) (by omega)).2 c1
    rw [e1, Option.bind_some]
    exact ⟨N1, rfl, n1, fr1⟩
theorem sl_p_w {o : sl_R} {no no2 : Int → Prop} {ok ok2 : Nat → (Nat → Int) → Prop} (h : sl_p o no ok) (h1 : ∀ f, no f → no2 f) (h2 : ∀ p R, ok p R → ok2 p R) : sl_p o no2 ok2 := by
  cases o with
  | inl f => exact h1 f h
  | inr x => exact h2 x.1 x.2 h
theorem sl_tg_1 {M : sd_M} {R : Nat → Int} (tg : sl_tg M R) (v : Int) : sl_tg (sd_s M 7 1 v) (ms_u (ms_u R 1 v) 0 1) := by
  obtain ⟨⟨t0, t1, t2, t6⟩, tf, tk⟩ := tg
  have e : ∀ i, 2 ≤ i → ms_u (ms_u R 1 v) 0 1 i = R i := fun i hi => by rw [ms_u_ne (by omega), ms_u_ne (by omega)]
  refine ⟨⟨?_, fun _ => ?_, ?_, ?_⟩, fun f hf => ?_, fun k hk => ?_⟩
  · rw [sd_s_j (by omega), t0]
  · rw [sd_s_at, ms_u_ne (by omega), ms_u_at]
  · rw [sd_s_j (by omega), t2, e 2 (by omega)]
  · rw [sd_s_j (by omega), t6, e 3 (by omega)]
  · rw [e 2 (by omega)] at hf
    have en : ms_nf (ms_u (ms_u R 1 v) 0 1) (f : Int) (R 3).toNat = ms_nf R (f : Int) (R 3).toNat := ms_nf_c _ (fun k hk => e _ (by omega))
    rw [e 3 (by omega), en, e (4 + f) (by omega), e (13 + f) (by omega), sd_s_a (by omega), sd_s_a (by omega), sd_s_a (by omega)]
    exact tf f hf
  · rw [e 3 (by omega)] at hk
    rw [e (22 + 3 * k) (by omega), e (23 + 3 * k) (by omega), e (24 + 3 * k) (by omega), sd_s_a (by omega), sd_s_a (by omega), sd_s_a (by omega)]
    exact tk k hk
theorem sl_cls {M : sd_M} {B : Nat → Int} {n p c : Nat} {R : Nat → Int} (cs : tx_cs M B n p) (tg : sl_tg M R) (tl : ms_tl R) : sl_p (sl_c B n c R p) (fun f => ∃ N, f_X6_readsClause (c : Int) M = some (0, N) ∧ N 1 2 = f ∧ sl_fr M N) (fun p2 R2 => ∃ N, f_X6_readsClause (c : Int) M = some (1, N) ∧ tx_cs N B n p2 ∧ sl_tg N R2 ∧ sl_fr M N) := by
  obtain ⟨N1, e1, cs1, s1, s2⟩ := tx_step cs
  have st1 : sl_st M N1 := ⟨s1, s2⟩
  have tg1 := sl_tg_st tg st1
  have k100 : ∃ N, f_X6_readsClause_100 M = some (0, N) ∧ N 1 2 = sl_f p 4 ∧ sl_fr M N := sl_f0 cs (w := 4) (by omega)
  have k0 := sl_f0 cs (w := 0) (by omega)
  unfold sl_c f_X6_readsClause
  rw [tx_kind cs, Option.bind_some]
  simp only []
  by_cases a1 : tx_kd B n p = 611 ∨ tx_kd B n p = 600 ∨ tx_kd B n p = 603
  · rw [if_pos a1]
    have r32 : ∀ (x y : Option (Int × sd_M)), (if tx_kd B n p = 611 then f_X6_readsClause_32 (c : Int) (tx_kd B n p) M else (if tx_kd B n p = 600 then f_X6_readsClause_32 (c : Int) (tx_kd B n p) M else (if tx_kd B n p = 603 then f_X6_readsClause_32 (c : Int) (tx_kd B n p) M else x))) = f_X6_readsClause_32 (c : Int) (tx_kd B n p) M := by
      intro x y
      by_cases b1 : tx_kd B n p = 611
      · rw [if_pos b1]
      · rw [if_neg b1]
        by_cases b2 : tx_kd B n p = 600
        · rw [if_pos b2]
        · rw [if_neg b2, if_pos (by omega)]
    rw [r32 _ none]
    unfold f_X6_readsClause_32
    by_cases a2 : 40 ≤ c
    · rw [if_pos a2, if_pos (show (40 : Int) ≤ (c : Int) by omega)]
      exact k100
    rw [if_neg a2, if_neg (show ¬ (40 : Int) ≤ (c : Int) by omega)]
    by_cases b1 : tx_kd B n p = 611
    · rw [if_pos b1, if_pos b1, b1]
      unfold f_X6_readsClause_50
      by_cases a3 : c = 0
      · rw [if_pos a3, if_pos (show (c : Int) = 0 by omega)]
        unfold f_X6_readsClause_59
        rw [if_pos rfl, if_neg (by decide)]
        unfold f_X6_readsClause_81
        rw [if_neg (by decide)]
        unfold f_X6_readsClause_106
        rw [e1, Option.bind_some]
        simp only []
        rw [if_pos (by trivial)]
        unfold sl_s
        have k := cl_number cs1 (lo := 1) (hi := 999) (by omega)
        by_cases c1 : tx_ok B n (tx_nx B n p) 1 999
        · rw [if_pos c1]
          obtain ⟨N2, e2, cs2, st2, v2⟩ := k.1 c1
          rw [e2, Option.bind_some]
          simp only []
          rw [sd_s_at, if_neg v2]
          refine ⟨_, rfl, tx_cs_c cs2 (fun j _ => by rw [sd_s_a (by omega)]) (sd_s_a (by omega)) (sd_s_a (by omega)) (sd_s_a (by omega)), sl_tg_1 (sl_tg_st tg1 st2) _, sl_fr_tr (sl_st_fr (sl_st_tr st1 st2)) ⟨fun a x y => sd_s_a (by omega), fun j _ _ => by rw [sd_s_a (by omega)]⟩⟩
        · rw [if_neg c1]
          obtain ⟨N2, e2, n2, fr2⟩ := k.2 c1
          rw [e2, Option.bind_some]
          simp only []
          rw [sd_s_at, if_pos (by trivial)]
          refine ⟨_, rfl, ?_, sl_fr_tr (sl_st_fr st1) (sl_fr_tr fr2 ⟨fun a x y => sd_s_a (by omega), fun j _ _ => by rw [sd_s_a (by omega)]⟩)⟩
          rw [sd_s_a (by omega)]
          exact n2
      · rw [if_neg a3, if_neg (show ¬ (c : Int) = 0 by omega)]
        unfold f_X6_readsClause_59
        rw [if_neg (by decide)]
        exact k100
    rw [if_neg b1, if_neg b1]
    unfold f_X6_readsClause_50
    by_cases a3 : c = 0
    · rw [if_pos a3, if_pos (show (c : Int) = 0 by omega)]
      unfold f_X6_readsClause_59
      rw [if_neg (by decide)]
      exact k100
    rw [if_neg a3, if_neg (show ¬ (c : Int) = 0 by omega)]
    unfold f_X6_readsClause_59
    rw [if_pos rfl]
    by_cases b2 : tx_kd B n p = 600
    · rw [if_pos b2, b2, if_pos rfl, tg.1.2.2.1]
      by_cases a4 : 9 ≤ R 2
      · rw [if_pos a4, if_pos a4]
        exact k100
      · rw [if_neg a4, if_neg a4]
        unfold f_X6_readsClause_81
        rw [if_neg (by decide)]
        unfold f_X6_readsClause_106
        rw [e1, Option.bind_some]
        simp only []
        rw [if_neg (by decide), if_pos (by trivial)]
        refine sl_p_w (sl_c_o cs1 tg1 tl (by omega)) (fun f h => ?_) (fun p2 R2 h => ?_)
        · obtain ⟨N, e, q, fr⟩ := h
          rw [e, Option.bind_some]
          exact ⟨N, rfl, q, sl_fr_tr (sl_st_fr st1) fr⟩
        · obtain ⟨N, e, q, t, fr⟩ := h
          rw [e, Option.bind_some]
          exact ⟨N, rfl, q, t, sl_fr_tr (sl_st_fr st1) fr⟩
    · have b3 : tx_kd B n p = 603 := by omega
      rw [if_neg b2, b3, if_neg (show ¬ (603 : Int) = 600 by decide)]
      unfold f_X6_readsClause_81
      rw [if_pos rfl, tg.1.2.2.2]
      by_cases a4 : R 3 < 12
      · rw [if_pos a4, if_pos a4]
        unfold f_X6_readsClause_106
        rw [e1, Option.bind_some]
        simp only []
        rw [if_neg (by decide), if_neg (by decide)]
        refine sl_p_w (sl_c_n cs1 tg1 tl a4) (fun f h => ?_) (fun p2 R2 h => ?_)
        · obtain ⟨N, e, q, fr⟩ := h
          rw [e, Option.bind_some]
          exact ⟨N, rfl, q, sl_fr_tr (sl_st_fr st1) fr⟩
        · obtain ⟨N, e, q, t, fr⟩ := h
          rw [e, Option.bind_some]
          exact ⟨N, rfl, q, t, sl_fr_tr (sl_st_fr st1) fr⟩
      · rw [if_neg a4, if_neg a4]
        exact k100
  · rw [if_neg a1, if_neg (fun w => a1 (Or.inl w)), if_neg (fun w => a1 (Or.inr (Or.inl w))), if_neg (fun w => a1 (Or.inr (Or.inr w)))]
    exact k0
/-- what holds of the row that is read -/
theorem sl_tl {B : Nat → Int} {n p c : Nat} {R : Nat → Int} (tl : ms_tl R) (hc : c ≠ 0 → R 0 = 1) : sl_p (sl_c B n c R p) (fun _ => True) (fun _ R2 => ms_tl R2 ∧ R2 0 = 1) := by
  obtain ⟨l0, l2, l3, lf, lk, l4, l5, l6⟩ := tl
  unfold sl_c
  by_cases a1 : tx_kd B n p = 611 ∨ tx_kd B n p = 600 ∨ tx_kd B n p = 603
  · rw [if_pos a1]
    by_cases a2 : 40 ≤ c
    · rw [if_pos a2]
      trivial
    rw [if_neg a2]
    by_cases b1 : tx_kd B n p = 611
    · rw [if_pos b1]
      by_cases a3 : c = 0
      · rw [if_pos a3]
        unfold sl_s
        by_cases c1 : tx_ok B n (tx_nx B n p) 1 999
        · rw [if_pos c1]
          have c2 := c1.2
          have e : ∀ i, 2 ≤ i → ms_u (ms_u R 1 (tx_vl B n (tx_nx B n p))) 0 1 i = R i := fun i hi => by rw [ms_u_ne (by omega), ms_u_ne (by omega)]
          have e1 : ms_u (ms_u R 1 (tx_vl B n (tx_nx B n p))) 0 1 1 = tx_vl B n (tx_nx B n p) := by rw [ms_u_ne (by omega), ms_u_at]
          unfold sl_p
          simp only []
          refine ⟨⟨Or.inr ms_u_at, ?_, ?_, fun f hf => ?_, fun k hk => ?_, fun w => ?_, ?_, fun _ => ?_⟩, ms_u_at⟩
          · rw [e 2 (by omega)]
            exact l2
          · rw [e 3 (by omega)]
            exact l3
          · rw [e 2 (by omega)] at hf
            rw [e _ (by omega), e _ (by omega)]
            exact lf f hf
          · rw [e 3 (by omega)] at hk
            rw [e (22 + 3 * k) (by omega), e (23 + 3 * k) (by omega), e (24 + 3 * k) (by omega), e 2 (by omega)]
            exact lk k hk
          · rw [ms_u_at] at w
            omega
          · rw [e1]
            omega
          · rw [e1]
            omega
        · rw [if_neg c1]
          trivial
      · rw [if_neg a3]
        trivial
    rw [if_neg b1]
    by_cases a3 : c = 0
    · rw [if_pos a3]
      trivial
    rw [if_neg a3]
    have r0 := hc a3
    by_cases b2 : tx_kd B n p = 600
    · rw [if_pos b2]
      by_cases a4 : 9 ≤ R 2
      · rw [if_pos a4]
        trivial
      rw [if_neg a4]
      unfold sl_o
      by_cases c1 : tx_ok B n (tx_nx B n p) 1 999
      · rw [if_pos c1]
        by_cases c2 : tx_ok B n (tx_nx B n (tx_nx B n p)) 0 1
        · rw [if_pos c2]
          obtain ⟨m, hm⟩ : ∃ m : Nat, R 2 = m := ⟨(R 2).toNat, by omega⟩
          have d1 := c1.2
          have d2 := c2.2
          generalize tx_vl B n (tx_nx B n p) = v at d1 ⊢
          generalize tx_vl B n (tx_nx B n (tx_nx B n p)) = w at d2 ⊢
          have e : ∀ i, (i < 2 ∨ i = 3 ∨ 22 ≤ i) → ms_u (ms_u (ms_u R (4 + m) v) (13 + m) w) 2 ((m : Int) + 1) i = R i := fun i hi => by rw [ms_u_ne (by omega), ms_u_ne (by omega), ms_u_ne (by omega)]
          unfold sl_p
          simp only []
          rw [hm, Int.toNat_natCast]
          refine ⟨⟨?_, ?_, ?_, fun f hf => ?_, fun k hk => ?_, fun w => ?_, ?_, fun _ => ?_⟩, ?_⟩
          · rw [e 0 (by omega)]
            exact l0
          · rw [ms_u_at]
            omega
          · rw [e 3 (by omega)]
            exact l3
          · rw [ms_u_at] at hf
            by_cases c : f = m
            · rw [c, ms_u_ne (by omega), ms_u_ne (by omega), ms_u_at, ms_u_ne (by omega), ms_u_at]
              omega
            · rw [ms_u_ne (by omega), ms_u_ne (by omega), ms_u_ne (by omega), ms_u_ne (by omega), ms_u_ne (by omega), ms_u_ne (by omega)]
              exact lf f (by omega)
          · rw [e 3 (by omega)] at hk
            rw [e (22 + 3 * k) (by omega), e (23 + 3 * k) (by omega), e (24 + 3 * k) (by omega), ms_u_at]
            have q := lk k hk
            omega
          · rw [e 0 (by omega)] at w
            omega
          · rw [e 1 (by omega)]
            exact l5
          · rw [e 1 (by omega)]
            exact l6 r0
          · rw [e 0 (by omega)]
            exact r0
        · rw [if_neg c2]
          trivial
      · rw [if_neg c1]
        trivial
    rw [if_neg b2]
    by_cases a4 : R 3 < 12
    · rw [if_pos a4]
      unfold sl_n
      by_cases c1 : tx_ok B n (tx_nx B n p) 0 (R 2 - 1)
      · rw [if_pos c1]
        by_cases c2 : tx_ok B n (tx_nx B n (tx_nx B n p)) 0 5
        · rw [if_pos c2]
          by_cases c3 : tx_ok B n (tx_nx B n (tx_nx B n (tx_nx B n p))) 0 999
          · rw [if_pos c3]
            obtain ⟨m, hm⟩ : ∃ m : Nat, R 3 = m := ⟨(R 3).toNat, by omega⟩
            have d1 := c1.2
            have d2 := c2.2
            have d3 := c3.2
            generalize tx_vl B n (tx_nx B n p) = v at d1 ⊢
            generalize tx_vl B n (tx_nx B n (tx_nx B n p)) = w at d2 ⊢
            generalize tx_vl B n (tx_nx B n (tx_nx B n (tx_nx B n p))) = x at d3 ⊢
            have e : ∀ i, (i < 22 ∧ i ≠ 3) → ms_u (ms_u (ms_u (ms_u R (22 + 3 * m) v) (23 + 3 * m) w) (24 + 3 * m) x) 3 ((m : Int) + 1) i = R i := fun i hi => by rw [ms_u_ne (by omega), ms_u_ne (by omega), ms_u_ne (by omega), ms_u_ne (by omega)]
            unfold sl_p
            simp only []
            rw [hm, Int.toNat_natCast]
            refine ⟨⟨?_, ?_, ?_, fun f hf => ?_, fun k hk => ?_, fun w => ?_, ?_, fun _ => ?_⟩, ?_⟩
            · rw [e 0 (by omega)]
              exact l0
            · rw [e 2 (by omega)]
              exact l2
            · rw [ms_u_at]
              omega
            · rw [e 2 (by omega)] at hf
              rw [e _ (by omega), e _ (by omega)]
              exact lf f hf
            · rw [ms_u_at] at hk
              rw [e 2 (by omega)]
              by_cases c : k = m
              · subst c
                simp (disch := omega) only [ms_u_ne, ms_u_at]
                omega
              · simp (disch := omega) only [ms_u_ne]
                exact lk k (by omega)
            · rw [e 0 (by omega)] at w
              omega
            · rw [e 1 (by omega)]
              exact l5
            · rw [e 1 (by omega)]
              exact l6 r0
            · rw [e 0 (by omega)]
              exact r0
          · rw [if_neg c3]
            trivial
        · rw [if_neg c2]
          trivial
      · rw [if_neg c1]
        trivial
    · rw [if_neg a4]
      trivial
  · rw [if_neg a1]
    trivial
