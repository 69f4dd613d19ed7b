/-! agree -/
def ms_uu (P : Nat → Bool) (s : Int) : Nat → Bool := fun i => P i || s.toNat.testBit i
def ms_va (S : Nat → Int) (P : Nat → Bool) (O s : Int) : Bool := decide (sd_and s (sd_xor O (-1)) = 0) && (ms_uu P s (S 89).toNat && decide (2 * ms_sa S ≤ 3 * ms_sum (ms_so S (ms_uu P s)) 9))
theorem ms_va_t {S : Nat → Int} {P : Nat → Bool} {O s : Int} (c : sd_and s (sd_xor O (-1)) = 0) (g : ms_uu P s (S 89).toNat = true) (e : 2 * ms_sa S ≤ 3 * ms_sum (ms_so S (ms_uu P s)) 9) : ms_va S P O s = true := by
  unfold ms_va
  rw [decide_eq_true c, decide_eq_true e, g]
  rfl
theorem ms_va_i {S : Nat → Int} {P : Nat → Bool} {O s : Int} (h : ms_va S P O s = true) : sd_and s (sd_xor O (-1)) = 0 ∧ ms_uu P s (S 89).toNat = true ∧ 2 * ms_sa S ≤ 3 * ms_sum (ms_so S (ms_uu P s)) 9 := by
  unfold ms_va at h
  rw [Bool.and_eq_true, Bool.and_eq_true] at h
  exact ⟨of_decide_eq_true h.1, h.2.1, of_decide_eq_true h.2.2⟩
theorem ms_uu_c {P : Nat → Bool} {s : Int} (hs : 0 ≤ s ∧ s < 512) : sd_or (ms_bt P 9) s = ms_bt (ms_uu P s) 9 := by
  have := ms_bt_or2 (p := P) (q := fun i => s.toNat.testBit i)
  rw [← ms_as hs] at this
  exact this
theorem ms_uu_r {P : Nat → Bool} {s : Int} (hs : 0 ≤ s ∧ s < 512) : sd_or s (ms_bt P 9) = ms_bt (ms_uu P s) 9 := by
  have := ms_bt_or2 (p := fun i => s.toNat.testBit i) (q := P)
  rw [← ms_as hs] at this
  rw [this]
  exact ms_bt_c 9 (fun i _ => by
    unfold ms_uu
    rw [Bool.or_comm])
theorem cl_isAgreed {M : sd_M} {S : Nat → Int} (ok : ms_ok S) (bk : cl_bk M 66 S) (h1 : 1 ≤ S 60) (U : Nat → Bool) : f_X9_isAgreed (ms_bt U 9) M = some (if U (S 89).toNat = true ∧ 2 * ms_sa S ≤ 3 * ms_sum (ms_so S U) 9 then 1 else 0, M) := by
  have l := ms_lines ok
  have ln : (0 ≤ S 89 ∧ S 89 < S 2) ∧ S (71 + (S 89).toNat) = 1 := ms_ln ok (k := 0) (by omega)
  have e : M 72 0 = S 89 := bk.1.2.2.2.1 0 (by omega)
  have s1 : f_X0_signedOf 66 (ms_on S 1) M = some (ms_sa S, M) := cl_signedOf ok bk.2.2 (ms_at S 1)
  have b1 := ms_so_b ok (ms_at S 1)
  have b2 := ms_so_b ok U
  have b3 : ms_sa S = ms_sum (ms_so S (ms_at S 1)) 9 := rfl
  unfold f_X9_isAgreed f_X9_isAgreed_27
  rw [e, ms_bti (by omega), cl_signedOf ok bk.2.2 U, Option.bind_some]
  simp only []
  rw [cl_lineBits ok bk.1, Option.bind_some]
  simp only []
  rw [s1, Option.bind_some]
  simp only []
  rw [sd_wid (by omega) (by omega), sd_wid (by omega) (by omega)]
  by_cases c : U (S 89).toNat = true
  · rw [if_pos c, if_pos rfl, if_neg (by omega)]
    by_cases d : 2 * ms_sa S ≤ 3 * ms_sum (ms_so S U) 9
    · rw [if_neg (by omega), if_pos ⟨c, d⟩]
    · rw [if_pos (by omega), if_neg (fun x => d x.2)]
  · rw [if_neg c, if_neg (by omega), if_pos (by trivial), if_neg (fun x => c x.1)]
theorem rf_isOf2 {M : sd_M} {p : Nat → Bool} {z : Int} (hz : 0 ≤ z ∧ z < 9) : f_X10_isOf (ms_bt p 9) z M = some (if p z.toNat = true then 1 else 0, M) := by
  obtain ⟨i, rfl⟩ : ∃ i : Nat, z = i := ⟨z.toNat, by omega⟩
  rw [Int.toNat_natCast]
  exact rf_isOf (by omega)
theorem cl_agree_l {M : sd_M} {S : Nat → Int} (ok : ms_ok S) (bk : cl_bk M 66 S) (h1 : 1 ≤ S 60) (P : Nat → Bool) (O w : Int) : ∀ (m fu : Nat) (s b : Int), s + m = 512 → m < fu → 0 ≤ s → (0 ≤ b ∧ b < 512) → f_X9_agree_74 f_X9_agree_126 fu (ms_bt P 9) w O b s M = f_X9_agree_126 w (ms_upl (ms_va S P O) m s b) M := by
  intro m
  induction m with
  | zero =>
    intro fu s b hs hf h1 hb
    obtain ⟨fu, rfl⟩ : ∃ g, fu = g + 1 := ⟨fu - 1, by omega⟩
    rw [f_X9_agree_74, if_pos (by omega)]
    rfl
  | succ m ih =>
    intro fu s b hs hf h0 hb
    obtain ⟨fu, rfl⟩ : ∃ g, fu = g + 1 := ⟨fu - 1, by omega⟩
    rw [f_X9_agree_74, if_neg (by omega), ms_upl, cl_bitCount (by omega), Option.bind_some]
    simp only [f_X9_agree_120, sd_wid (z := s + 1) (by omega) (by omega)]
    rw [cl_bitCount (by omega), Option.bind_some]
    simp only []
    rw [ms_uu_c (by omega), cl_isAgreed ok bk h1, Option.bind_some]
    simp only []
    have ub := ih fu (s + 1) b (by omega) (by omega) (by omega) hb
    have us := ih fu (s + 1) s (by omega) (by omega) (by omega) (by omega)
    by_cases c : sd_and s (sd_xor O (-1)) = 0
    · rw [if_pos c]
      by_cases d : ms_pp s < ms_pp b
      · rw [if_neg (by omega)]
        by_cases e : ms_uu P s (S 89).toNat = true ∧ 2 * ms_sa S ≤ 3 * ms_sum (ms_so S (ms_uu P s)) 9
        · rw [if_pos e, if_neg (by omega), if_pos ⟨ms_va_t c e.1 e.2, d⟩]
          exact us
        · rw [if_neg e, if_pos rfl, if_neg (fun x => e (ms_va_i x.1).2)]
          exact ub
      · rw [if_pos (by omega), if_neg (fun x => d x.2)]
        exact ub
    · rw [if_neg c, if_neg (fun x => c (ms_va_i x.1).1)]
      exact ub
theorem rf_agree_l {M : sd_M} (ok : ms_ok (M 341)) (h1 : 1 ≤ M 341 60) (sn : ∀ j : Nat, (j : Int) < M 341 60 → M 344 j = ms_sk (M 341) j) (P : Nat → Bool) (A w : Int) : ∀ (m fu : Nat) (b : Int), m ≤ 512 → m < fu → (0 ≤ b ∧ b < 512) → f_X10_agree_67 f_X10_agree_145 fu (ms_bt P 9) w A (ms_sa (M 341)) b ((m : Int) - 1) M = f_X10_agree_145 w (ms_dnl (ms_va (M 341) P (sd_and A (sd_xor (ms_bt P 9) (-1)))) 0 m b) M := by
  have l := ms_lines ok
  have ln : (0 ≤ M 341 89 ∧ M 341 89 < M 341 2) ∧ M 341 (71 + (M 341 89).toNat) = 1 := ms_ln ok (k := 0) (by omega)
  intro m
  induction m with
  | zero =>
    intro fu b hm hf hb
    obtain ⟨fu, rfl⟩ : ∃ g, fu = g + 1 := ⟨fu - 1, by omega⟩
    rw [f_X10_agree_67, if_pos (by omega)]
    rfl
  | succ m ih =>
    intro fu b hm hf hb
    obtain ⟨fu, rfl⟩ : ∃ g, fu = g + 1 := ⟨fu - 1, by omega⟩
    have ms : ((m + 1 : Nat) : Int) - 1 = m := by push_cast; omega
    rw [ms]
    have b1 := ms_so_b ok (ms_at (M 341) 1)
    have b2 := ms_so_b ok (ms_uu P (m : Int))
    have b3 : ms_sa (M 341) = ms_sum (ms_so (M 341) (ms_at (M 341) 1)) 9 := rfl
    rw [f_X10_agree_67, if_neg (by omega), ms_dnl, ms_uu_r (by omega), rf_isOf2 (by omega), Option.bind_some]
    simp only [f_X10_agree_139, sd_wid (z := (m : Int) + (-1)) (by omega) (by omega)]
    rw [rf_signedBy ok sn, Option.bind_some]
    simp only []
    rw [rf_bits (by omega), Option.bind_some]
    simp only []
    rw [rf_bits (by omega), Option.bind_some]
    simp only [Int.add_zero]
    rw [sd_wid (by omega) (by omega), sd_wid (by omega) (by omega), show (m : Int) + (-1) = m - 1 by omega]
    have ub := ih fu b (by omega) (by omega) hb
    have us := ih fu (m : Int) (by omega) (by omega) (by omega)
    by_cases c : sd_and (m : Int) (sd_xor (sd_and A (sd_xor (ms_bt P 9) (-1))) (-1)) = 0
    · rw [if_pos c]
      by_cases g : ms_uu P (m : Int) (M 341 89).toNat = true
      · rw [ms_i1 g, if_neg (by omega)]
        by_cases e : 2 * ms_sa (M 341) ≤ 3 * ms_sum (ms_so (M 341) (ms_uu P (m : Int))) 9
        · rw [if_neg (by omega)]
          by_cases d : ms_pp (m : Int) ≤ ms_pp b
          · rw [if_neg (by omega), if_pos ⟨ms_va_t c g e, d⟩]
            exact us
          · rw [if_pos (by omega), if_neg (fun x => d x.2)]
            exact ub
        · rw [if_pos (by omega), if_neg (fun x => e (ms_va_i x.1).2.2)]
          exact ub
      · rw [ms_i0 g, if_pos rfl, if_neg (fun x => g (ms_va_i x.1).2.1)]
        exact ub
    · rw [if_neg c, if_neg (fun x => c (ms_va_i x.1).1)]
      exact ub
theorem ms_ag {S : Nat → Int} {P Q : Nat → Bool} {O : Int} (hQ : O = ms_bt Q 9) : ms_upl (ms_va S P O) 512 0 O = ms_dnl (ms_va S P O) 0 (O.toNat + 1) O ∧ (0 ≤ O ∧ O < 512) ∧ (0 ≤ ms_upl (ms_va S P O) 512 0 O ∧ ms_upl (ms_va S P O) 512 0 O < 512) := by
  have pb := ms_bt_lt (p := Q) 9
  have p9 := ms_p9 (n := 9) (by omega)
  have on : 0 ≤ O ∧ O < 512 := by omega
  have hv : ∀ s, 0 ≤ s → s < 512 → ms_va S P O s = true → s ≤ O ∧ (ms_pp s = ms_pp O → s = O) := fun s x y u => by
    have z2 : sd_and s (sd_xor O (-1)) = 0 := by
      unfold ms_va at u
      rw [Bool.and_eq_true] at u
      exact of_decide_eq_true u.1
    rw [hQ] at z2 ⊢
    exact ms_sb ⟨x, y⟩ z2
  have rl : ms_lx O O := Or.inr ⟨rfl, Int.le_refl _⟩
  refine ⟨ms_mn_u (ms_upl_p hv 512 0 _ (by omega) (by omega) (Or.inl rfl) rl (fun t x y u => by omega)) (ms_dnl_p (by omega) on (fun s x y u => (hv s x y u).1) _ _ (by push_cast; omega) (Or.inl rfl) rl (fun t x y u => ?_) (fun t x y => by omega)), on, ms_upl_b 512 0 O (by omega) on⟩
  push_cast at x
  have := (hv t (by omega) y u).1
  omega
theorem sp_agree : sd_S2 sd_Iv f_X9_agree f_X10_agree := iv_q2 (fun M h p w hp hw => by
  have ok := iv_ok h
  have l := ms_lines ok
  have sp := iv_sp h
  have bk := iv_bk h
  by_cases c : M 341 0 = 1
  · by_cases z : sd_and p (sd_xor (ms_on (M 341) 1) (-1)) = 0
    · obtain ⟨P, rfl, hP⟩ := ms_in9 hp (q := ms_at (M 341) 1) z
      have pb := ms_bt_lt (p := P) 9
      by_cases d : 0 ≤ w ∧ w ≤ 1
      · by_cases g : 1 ≤ M 341 60
        · have hQ : sd_and (ms_on (M 341) 1) (sd_xor (ms_bt P 9) (-1)) = _ := ms_bt_sub (p := ms_at (M 341) 1) (q := P)
          obtain ⟨same, on, bb⟩ := ms_ag (S := M 341) (P := P) hQ
          refine ⟨if w = 0 then ms_pp (ms_upl (ms_va (M 341) P (sd_and (ms_on (M 341) 1) (sd_xor (ms_bt P 9) (-1)))) 512 0 (sd_and (ms_on (M 341) 1) (sd_xor (ms_bt P 9) (-1)))) else ms_upl (ms_va (M 341) P (sd_and (ms_on (M 341) 1) (sd_xor (ms_bt P 9) (-1)))) 512 0 (sd_and (ms_on (M 341) 1) (sd_xor (ms_bt P 9) (-1))), ?_, fun N hN q => ?_⟩
          · unfold f_X9_agree
            rw [cl_lineBits ok bk.1, Option.bind_some]
            simp only []
            rw [if_neg (by omega), if_neg (by omega), if_neg (by omega), if_pos z, bk.1.1.2.2.1, if_pos g, cl_agree_l ok bk g P _ w 512 4000 0 _ (by omega) (by omega) (by omega) on]
            unfold f_X9_agree_126
            by_cases w0 : w = 0
            · rw [if_pos w0, if_pos w0, cl_bitCount bb, Option.bind_some]
              exact ms_t_r ⟨rfl, cl_qf_rf⟩
            · rw [if_neg w0, if_neg w0]
              exact ms_t_r ⟨rfl, cl_qf_rf⟩
          · have e : N 341 = M 341 := cl_qf_hi q (by omega)
            unfold f_X10_agree
            rw [rf_onesAt (iv_ok hN), Option.bind_some, e]
            simp only []
            rw [rf_sl1 (by rw [e]; exact c), Option.bind_some]
            simp only []
            rw [if_neg (by omega), if_neg (by omega), if_pos z, rf_in1 d, Option.bind_some]
            simp only []
            rw [if_neg (by omega), e, if_neg (by omega)]
            refine ms_t_b (rf_signedAll (iv_ok hN)) (fun v K hK => ?_)
            simp only []
            have eK : K 341 = M 341 := by rw [rf_f_41 hK.2.1, e]
            rw [e] at hK
            have sn : ∀ j : Nat, (j : Int) < K 341 60 → K 344 j = ms_sk (K 341) j := by
              rw [eK]
              exact hK.2.2
            have r := rf_agree_l (M := K) (by rw [eK]; exact ok) (by rw [eK]; exact g) sn P (ms_on (M 341) 1) w ((sd_and (ms_on (M 341) 1) (sd_xor (ms_bt P 9) (-1))).toNat + 1) 4000 (sd_and (ms_on (M 341) 1) (sd_xor (ms_bt P 9) (-1))) (by omega) (by omega) on
            rw [eK, ← same, show (((sd_and (ms_on (M 341) 1) (sd_xor (ms_bt P 9) (-1))).toNat + 1 : Nat) : Int) - 1 = sd_and (ms_on (M 341) 1) (sd_xor (ms_bt P 9) (-1)) by push_cast; omega] at r
            rw [hK.1, r]
            unfold f_X10_agree_145
            by_cases w0 : w = 0
            · rw [if_pos w0, if_pos w0, rf_bits bb, Option.bind_some]
              exact ms_t_r ⟨rfl, rf_q_f hK.2.1⟩
            · rw [if_neg w0, if_neg w0]
              exact ms_t_r ⟨rfl, rf_q_f hK.2.1⟩
        · refine ⟨-2, ?_, fun N hN q => ?_⟩
          · unfold f_X9_agree
            rw [cl_lineBits ok bk.1, Option.bind_some]
            simp only []
            rw [if_neg (by omega), if_neg (by omega), if_neg (by omega), if_pos z, bk.1.1.2.2.1, if_neg g]
            exact ms_t_r ⟨rfl, cl_qf_rf⟩
          · have e : N 341 = M 341 := cl_qf_hi q (by omega)
            unfold f_X10_agree
            rw [rf_onesAt (iv_ok hN), Option.bind_some, e]
            simp only []
            rw [rf_sl1 (by rw [e]; exact c), Option.bind_some]
            simp only []
            rw [if_neg (by omega), if_neg (by omega), if_pos z, rf_in1 d, Option.bind_some]
            simp only []
            rw [if_neg (by omega), e, if_pos (by omega)]
            exact ms_t_r ⟨rfl, rf_q_rf⟩
      · refine ⟨-1, ?_, fun N hN q => ?_⟩
        · unfold f_X9_agree
          rw [cl_lineBits ok bk.1, Option.bind_some]
          simp only []
          rw [if_neg (by omega)]
          by_cases g : w < 0
          · rw [if_pos g]
            exact ms_t_r ⟨rfl, cl_qf_rf⟩
          · rw [if_neg g, if_pos (by omega)]
            exact ms_t_r ⟨rfl, cl_qf_rf⟩
        · have e : N 341 = M 341 := cl_qf_hi q (by omega)
          unfold f_X10_agree
          rw [rf_onesAt (iv_ok hN), Option.bind_some, e]
          simp only []
          rw [rf_sl1 (by rw [e]; exact c), Option.bind_some]
          simp only []
          rw [if_neg (by omega), if_neg (by omega), if_pos z, rf_in0 d, Option.bind_some]
          exact ms_t_r ⟨rfl, rf_q_rf⟩
    · refine ⟨-1, ?_, fun N hN q => ?_⟩
      · unfold f_X9_agree
        rw [cl_lineBits ok bk.1, Option.bind_some]
        simp only []
        rw [if_neg (by omega)]
        by_cases g : w < 0
        · rw [if_pos g]
          exact ms_t_r ⟨rfl, cl_qf_rf⟩
        · rw [if_neg g]
          by_cases g2 : 1 < w
          · rw [if_pos g2]
            exact ms_t_r ⟨rfl, cl_qf_rf⟩
          · rw [if_neg g2, if_neg z]
            exact ms_t_r ⟨rfl, cl_qf_rf⟩
      · have e : N 341 = M 341 := cl_qf_hi q (by omega)
        unfold f_X10_agree
        rw [rf_onesAt (iv_ok hN), Option.bind_some, e]
        simp only []
        rw [rf_sl1 (by rw [e]; exact c), Option.bind_some]
        simp only []
        rw [if_neg (by omega)]
        by_cases g : p < 0
        · rw [if_pos g]
          exact ms_t_r ⟨rfl, rf_q_rf⟩
        · rw [if_neg g, if_neg z]
          exact ms_t_r ⟨rfl, rf_q_rf⟩
  · refine ⟨-1, ?_, fun N hN q => ?_⟩
    · unfold f_X9_agree
      rw [cl_lineBits ok bk.1, Option.bind_some]
      simp only []
      rw [if_pos (by omega)]
      exact ms_t_r ⟨rfl, cl_qf_rf⟩
    · have e : N 341 = M 341 := cl_qf_hi q (by omega)
      unfold f_X10_agree
      rw [rf_onesAt (iv_ok hN), Option.bind_some, e]
      simp only []
      rw [rf_sl0 (by rw [e]; exact c), Option.bind_some]
      exact ms_t_r ⟨rfl, rf_q_rf⟩)
