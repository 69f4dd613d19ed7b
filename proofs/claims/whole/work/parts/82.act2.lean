/-! acts: cancel, order, write, day, claim, undo -/
def cl_rm (M N : sd_M) : Prop := cl_bk N (156 + 8 * (M 0 10).toNat) (M 341) ∧ N 0 4 = M 0 4 ∧ N 0 9 = iv_nx (M 331 27) ∧ N 0 10 = iv_np (M 0 10) ∧ (∀ a, a ≠ 0 → ¬ (156 + 8 * (M 0 10).toNat ≤ a ∧ a < 156 + 8 * (M 0 10).toNat + 8) → N a = M a)
def rf_rm (M N : sd_M) : Prop := N 331 27 = iv_nx (M 331 27) ∧ (∀ j, j ≠ 27 → N 331 j = M 331 j) ∧ (∀ a, a ≠ 345 → a ≠ 331 → N a = M a) ∧ ∀ j, j < 980 → N 345 j = iv_kr (M 341) (M 345) (M 331 27) j
theorem iv_act2 {M N1 N2 K L : sd_M} (h : sd_Iv M) {T : Nat → Int} (hT : ms_ok T ∧ 0 ≤ T 58 ∧ T 58 ≤ 999) (ou : ms_ou (M 341) T) (r1 : cl_rm M N1) (f2 : cl_fd N1 N2 66) (b2 : cl_bk N2 66 T) (k : rf_rm N2 K) (e : L 341 = T) (d : rf_d K L) : sd_Iv L := by
  obtain ⟨p1, p2, p3, p4, p5⟩ := r1
  obtain ⟨k1, k2, k3, k4⟩ := k
  have pn := h.2.2.1.1.2.2
  have lo : ∀ a, a < 331 → L a = N2 a := fun a x => by rw [d.1 a (by omega) (by omega) (by omega) (by omega) (by omega) (by omega) (by omega), k3 a (by omega) (by omega)]
  have hi : ∀ a, 331 ≤ a → N2 a = M a := fun a x => by rw [f2 a (by omega) (fun r _ => by omega) (by omega), p5 a (by omega) (by omega)]
  have l0 : L 0 = N1 0 := by rw [lo 0 (by omega), f2 0 (by omega) (fun r _ => by omega) (by omega)]
  rw [hi 331 (by omega)] at k1 k2
  rw [hi 341 (by omega), hi 345 (by omega), hi 331 (by omega)] at k4
  refine iv_act h hT ou e (cl_bk_c hT.1 b2 (fun _ _ => rfl) (fun a x y => lo a (by omega))) (by rw [l0]; exact p2) (by rw [l0]; exact p3) (by rw [l0]; exact p4) (cl_bk_c (iv_ok h) p1 (fun _ _ => rfl) (fun a x y => by rw [lo a (by omega), f2 a (by omega) (fun r _ => by omega) (by omega)])) (fun a x y z => by rw [lo a (by omega), f2 a (by omega) z (by omega), p5 a y (by omega)]) (fun a x y z => by rw [lo a (by omega), f2 a (by omega) (fun r _ => by omega) (by omega), p5 a (by omega) z]) ?_ (fun j hj => by rw [d.2 j (by omega), k2 j (by omega)]) (fun j hj => ?_) (fun a ha => ?_)
  · rw [d.2 27 (by omega), k1]
  · rw [d.1 345 (by omega) (by omega) (by omega) (by omega) (by omega) (by omega) (by omega), k4 j hj]
  · rw [d.1 a (by omega) (by omega) (by omega) (by omega) (by omega) (by omega) (by omega), k3 a (by omega) (by omega), hi a (by omega)]
theorem cl_rm_tn {M N : sd_M} (h : sd_Iv M) (r : cl_rm M N) : cl_tn N (M 341) := cl_tn_c (iv_tn h) (iv_ok h).1.2.2.1.2 (fun a x y => r.2.2.2.2 a (by omega) (by omega)) (fun _ _ => rfl)
/-- the reference keeps, its state as it is -/
theorem rf_ka2 {M N : sd_M} (h : sd_Iv M) (e1 : N 331 = M 331) (e4 : N 341 = M 341) : ms_T (f_X10_keepsAct N) (fun _ K => rf_rm N K ∧ K 341 = M 341 ∧ K 331 21 = M 331 21 ∧ ∀ a, a ≠ 345 → a ≠ 331 → K a = N a) := by
  refine ms_t_w (rf_ka (M := N) (by rw [e1]; exact h.2.2.1.1.2.1)) (fun _ K hK => ⟨hK, by rw [hK.2.2.1 341 (by omega) (by omega), e4], by rw [hK.2.1 21 (by omega), e1], hK.2.2.1⟩)
theorem cl_hi {M N1 N2 : sd_M} (h : sd_Iv M) (r : cl_rm M N1) (f : cl_fd N1 N2 66) {a : Nat} (ha : 331 ≤ a) : N2 a = M a := by
  have pn := h.2.2.1.1.2.2
  rw [f a (by omega) (fun r _ => by omega) (by omega), r.2.2.2.2 a (by omega) (by omega)]
theorem sp_cancel : sd_S1 sd_Iv f_X9_cancel f_X10_cancel := by
  intro M h f hf
  have ok := iv_ok h
  have sl := iv_sl h
  by_cases c : (0 ≤ f ∧ f < M 341 2) ∧ M 341 (71 + f.toNat) = 1
  · obtain ⟨N1, e1, p1, b1, p2⟩ := cl_rem h
    have r1 : cl_rm M N1 := ⟨p1, p2⟩
    obtain ⟨v, N2, e2, v2, b2, f2⟩ := cl_strike (by omega) ok b1 (cl_rm_tn h r1) c
    have fd := cl_fd_fr f2
    have h31 : N2 331 = M 331 := cl_hi h r1 fd (by omega)
    have h41 : N2 341 = M 341 := cl_hi h r1 fd (by omega)
    obtain ⟨_, K, e3, k1, k2, k3, k4⟩ := rf_ka2 h h31 h41
    obtain ⟨w, L, e4, w2, l1, l2⟩ := rf_ca (M := K) k2 ok c
    refine ⟨v, N2, L, ?_, ?_, iv_act2 h ⟨ms_ca_ok ok c, ?_⟩ (ms_ou_ca ok c) r1 fd b2 k1 l1 l2⟩
    · unfold f_X9_cancel
      rw [iv_isLine h, if_pos c, Option.bind_some]
      simp only []
      rw [if_neg (by omega), e1, Option.bind_some]
      simp only []
      rw [e2, Option.bind_some]
    · unfold f_X10_cancel
      rw [rf_isLine (by rw [h41]; exact ok), h41, if_pos c, Option.bind_some]
      simp only []
      rw [if_neg (by omega), e3, Option.bind_some]
      simp only []
      rw [e4, Option.bind_some, w2, v2]
    · have p := ms_po_l ok c
      have o := ms_go_ok ok p.1
      rw [p.2] at o
      have e : ms_ca (M 341) f 58 = M 341 58 := by
        unfold ms_ca ms_st
        rw [ms_se_58 9 o 58 (by omega), ms_go_lo (by omega) (by omega)]
      rw [e]
      exact sl.2.1
  · refine ⟨-1, M, M, ?_, ?_, h⟩
    · unfold f_X9_cancel
      rw [iv_isLine h, if_neg c, Option.bind_some]
      rfl
    · unfold f_X10_cancel
      rw [rf_isLine ok, if_neg c, Option.bind_some]
      rfl
theorem sp_order : sd_S1 sd_Iv f_X9_order f_X10_order := by
  intro M h v hv
  have ok := iv_ok h
  have l := ms_lines ok
  have sl := iv_sl h
  have sp := iv_sp h
  have bk := iv_bk h
  by_cases c : M 341 0 = 1 ∧ (1 ≤ v ∧ v ≤ 999) ∧ v ≠ M 341 59
  · obtain ⟨c1, c2, c3⟩ := c
    have ok2 := ms_ok_59 ok c2
    have ok3 := ms_st_ok ok2
    have lt := ms_lines ok3
    obtain ⟨N1, e1, p1, b1, p2⟩ := cl_rem h
    have r1 : cl_rm M N1 := ⟨p1, p2⟩
    obtain ⟨_, N1b, e1b, b1b, f1b⟩ := cl_reorder ok b1 c2
    have tn : cl_tn N1b (ms_u (M 341) 59 v) := cl_tn_c (cl_rm_tn h r1) ok.1.2.2.1.2 (fun a x y => f1b a (by omega)) (fun i hi => ms_u_ne (by omega))
    obtain ⟨w, N2, e2, v2, b2, f2⟩ := cl_settle (by omega) ok2 b1b tn
    have fd := cl_fd_tr (cl_fd_fr f1b) (cl_fd_fr f2)
    have h31 : N2 331 = M 331 := cl_hi h r1 fd (by omega)
    have h41 : N2 341 = M 341 := cl_hi h r1 fd (by omega)
    obtain ⟨_, K, e3, k1, k2, k3, k4⟩ := rf_ka2 h h31 h41
    have r41 : sd_s K 341 59 v 341 = ms_u (M 341) 59 v := by rw [sd_s_row, k2]
    obtain ⟨_, L, e4, l1, l2⟩ := rf_settlesAll (M := sd_s K 341 59 v) (by rw [r41]; exact ok2)
    rw [r41] at l1
    have ou : ms_ou (M 341) (ms_st (ms_u (M 341) 59 v)) := ms_ou_tr (ms_ou_u (by omega)) (ms_ou_st ok2)
    have u61 : ms_u (M 341) 59 v 61 = M 341 61 := ms_u_ne (by omega)
    have x2 : ms_st (ms_u (M 341) 59 v) 2 = M 341 2 := ou 2 (by omega)
    refine ⟨w, N2, L, ?_, ?_, iv_act2 h ⟨ok3, ?_⟩ ou r1 fd b2 k1 l1 (rf_d_tr rf_d_1 (rf_d_g l2))⟩
    · unfold f_X9_order
      rw [if_neg (by omega), cl_isNumber, if_pos c2, Option.bind_some]
      simp only []
      rw [if_neg (by omega), bk.1.1.1, if_neg c3, e1, Option.bind_some]
      simp only []
      rw [e1b, Option.bind_some]
      simp only []
      rw [e2, Option.bind_some]
    · unfold f_X10_order
      rw [rf_sl1 (by rw [h41]; exact c1), Option.bind_some]
      simp only []
      rw [if_neg (by omega), rf_in1 c2, Option.bind_some]
      simp only []
      rw [if_neg (by omega), h41, if_neg (fun x => c3 x.symm), e3, Option.bind_some]
      simp only []
      rw [e4, Option.bind_some]
      simp only []
      rw [l1, k2, sd_wid (by omega) (by omega), v2, u61]
    · have e : ms_st (ms_u (M 341) 59 v) 58 = M 341 58 := by
        unfold ms_st
        rw [ms_se_58 9 ok2 58 (by omega), ms_u_ne (by omega)]
      rw [e]
      exact sl.2.1
  · refine ⟨-1, M, M, ?_, ?_, h⟩
    · unfold f_X9_order
      by_cases c1 : M 59 0 = 0
      · rw [if_pos c1]
      · rw [if_neg c1, cl_isNumber, Option.bind_some]
        simp only []
        by_cases c2 : 1 ≤ v ∧ v ≤ 999
        · rw [if_pos c2, if_neg (by omega), bk.1.1.1, if_pos (by
            by_cases c3 : v = M 341 59
            · exact c3
            · exact absurd ⟨by omega, c2, c3⟩ c)]
        · rw [if_neg c2, if_pos rfl]
    · unfold f_X10_order
      rw [rf_isSlip, Option.bind_some]
      simp only []
      by_cases c1 : M 341 0 = 1
      · rw [if_pos c1, if_neg (by omega), rf_in, Option.bind_some]
        simp only []
        by_cases c2 : 1 ≤ v ∧ v ≤ 999
        · rw [if_pos c2, if_neg (by omega), if_pos (by
            by_cases c3 : v = M 341 59
            · exact c3.symm
            · exact absurd ⟨c1, c2, c3⟩ c)]
        · rw [if_neg c2, if_pos rfl]
      · rw [if_neg c1, if_pos rfl]
theorem sp_write : sd_S2 sd_Iv f_X9_write f_X10_write := by
  intro M h f v hf hv
  have ok := iv_ok h
  have l := ms_lines ok
  have sl := iv_sl h
  have bk := iv_bk h
  by_cases c : (0 ≤ f ∧ f < M 341 2) ∧ M 341 (71 + f.toNat) = 1
  · have e67 : M 67 f.toNat = M 341 (62 + f.toNat) := (bk.1.2.1 f.toNat (by omega)).1
    by_cases d : (1 ≤ v ∧ v ≤ 999) ∧ v ≠ M 341 (62 + f.toNat)
    · obtain ⟨c2, c3⟩ := d
      have ok2 := ms_ok_62 ok c2 (f := f.toNat) (by omega)
      have ok3 := ms_st_ok ok2
      obtain ⟨N1, e1, p1, b1, p2⟩ := cl_rem h
      have r1 : cl_rm M N1 := ⟨p1, p2⟩
      obtain ⟨_, N1b, e1b, b1b, f1b⟩ := cl_rewrite ok b1 c2 c.1
      have tn : cl_tn N1b (ms_u (M 341) (62 + f.toNat) v) := cl_tn_c (cl_rm_tn h r1) ok.1.2.2.1.2 (fun a x y => f1b a (by omega)) (fun i hi => ms_u_ne (by omega))
      obtain ⟨w, N2, e2, v2, b2, f2⟩ := cl_settle (by omega) ok2 b1b tn
      have fd := cl_fd_tr (cl_fd_fr f1b) (cl_fd_fr f2)
      have h31 : N2 331 = M 331 := cl_hi h r1 fd (by omega)
      have h41 : N2 341 = M 341 := cl_hi h r1 fd (by omega)
      obtain ⟨_, K, e3, k1, k2, k3, k4⟩ := rf_ka2 h h31 h41
      have r41 : sd_s K 341 (62 + f.toNat) v 341 = ms_u (M 341) (62 + f.toNat) v := by rw [sd_s_row, k2]
      obtain ⟨_, L, e4, l1, l2⟩ := rf_settlesAll (M := sd_s K 341 (62 + f.toNat) v) (by rw [r41]; exact ok2)
      rw [r41] at l1
      have ou : ms_ou (M 341) (ms_st (ms_u (M 341) (62 + f.toNat) v)) := ms_ou_tr (ms_ou_u (by omega)) (ms_ou_st ok2)
      have x2 : ms_st (ms_u (M 341) (62 + f.toNat) v) 2 = M 341 2 := ou 2 (by omega)
      have n59 : N2 59 2 = ms_st (ms_u (M 341) (62 + f.toNat) v) 2 := by
        rw [x2, f2 59 (by omega), f1b 59 (by omega), r1.2.2.2.2 59 (by omega) (by omega)]
        exact (iv_tn h).1.1
      have il := cl_isLine ok3 n59 b2.1 f
      obtain ⟨rs, Z, z1, z2, z3⟩ := rf_signedOf (M := L) (by rw [l1]; exact ok3) f
      rw [l1] at z2
      have t58 : ms_st (ms_u (M 341) (62 + f.toNat) v) 58 = M 341 58 := by
        unfold ms_st
        rw [ms_se_58 9 ok2 58 (by omega), ms_u_ne (by omega)]
      have fin : ∀ Y, rf_d L Y → Y 341 = L 341 → sd_Iv Y := fun Y y1 y2 => iv_act2 h ⟨ok3, by rw [t58]; exact sl.2.1⟩ ou r1 fd b2 k1 (by rw [y2, l1]) (rf_d_tr (rf_d_tr rf_d_1 (rf_d_g l2)) y1)
      by_cases g : (0 ≤ f ∧ f < ms_st (ms_u (M 341) (62 + f.toNat) v) 2) ∧ ms_st (ms_u (M 341) (62 + f.toNat) v) (71 + f.toNat) = 1
      · refine ⟨rs, N2, Z, ?_, ?_, fin Z (rf_d_f z3) (rf_f_41 z3)⟩
        · unfold f_X9_write
          rw [iv_isLine h, if_pos c, Option.bind_some]
          simp only []
          rw [if_neg (by omega), cl_isNumber, if_pos c2, Option.bind_some]
          simp only []
          rw [if_neg (by omega), if_pos (by omega), e67, if_neg c3, e1, Option.bind_some]
          simp only []
          rw [e1b, Option.bind_some]
          simp only []
          rw [e2, Option.bind_some]
          simp only []
          rw [il, if_pos g, Option.bind_some]
          simp only []
          rw [if_neg (by omega), if_pos (by omega), z2]
          have s : N2 70 f.toNat = ms_sg (ms_st (ms_u (M 341) (62 + f.toNat) v)) (f.toNat : Int) := b2.2.2 f.toNat (by omega)
          rw [s, Int.toNat_of_nonneg c.1.1]
        · unfold f_X10_write
          rw [rf_isLine (by rw [h41]; exact ok), h41, if_pos c, Option.bind_some]
          simp only []
          rw [if_neg (by omega), rf_in1 c2, Option.bind_some]
          simp only []
          rw [if_neg (by omega), sd_wid (by omega) (by omega), if_pos (by omega), sd_tn62 c.1.1, h41, if_neg (fun x => c3 x.symm), e3, Option.bind_some]
          simp only []
          rw [if_pos (by omega), e4, Option.bind_some]
          simp only []
          rw [rf_isLine (by rw [l1]; exact ok3), l1, if_pos g, Option.bind_some]
          simp only []
          rw [if_neg (by omega), z1, Option.bind_some]
      · refine ⟨-2, N2, L, ?_, ?_, fin L rf_d_rf rfl⟩
        · unfold f_X9_write
          rw [iv_isLine h, if_pos c, Option.bind_some]
          simp only []
          rw [if_neg (by omega), cl_isNumber, if_pos c2, Option.bind_some]
          simp only []
          rw [if_neg (by omega), if_pos (by omega), e67, if_neg c3, e1, Option.bind_some]
          simp only []
          rw [e1b, Option.bind_some]
          simp only []
          rw [e2, Option.bind_some]
          simp only []
          rw [il, if_neg g, Option.bind_some]
          rfl
        · unfold f_X10_write
          rw [rf_isLine (by rw [h41]; exact ok), h41, if_pos c, Option.bind_some]
          simp only []
          rw [if_neg (by omega), rf_in1 c2, Option.bind_some]
          simp only []
          rw [if_neg (by omega), sd_wid (by omega) (by omega), if_pos (by omega), sd_tn62 c.1.1, h41, if_neg (fun x => c3 x.symm), e3, Option.bind_some]
          simp only []
          rw [if_pos (by omega), e4, Option.bind_some]
          simp only []
          rw [rf_isLine (by rw [l1]; exact ok3), l1, if_neg g, Option.bind_some]
          rfl
    · refine ⟨-1, M, M, ?_, ?_, h⟩
      · unfold f_X9_write
        rw [iv_isLine h, if_pos c, Option.bind_some]
        simp only []
        rw [if_neg (by omega), cl_isNumber, Option.bind_some]
        simp only []
        by_cases c2 : 1 ≤ v ∧ v ≤ 999
        · rw [if_pos c2, if_neg (by omega), if_pos (by omega), e67, if_pos (by
            by_cases c3 : v = M 341 (62 + f.toNat)
            · exact c3
            · exact absurd ⟨c2, c3⟩ d)]
        · rw [if_neg c2, if_pos rfl]
      · unfold f_X10_write
        rw [rf_isLine ok, if_pos c, Option.bind_some]
        simp only []
        rw [if_neg (by omega), rf_in, Option.bind_some]
        simp only []
        by_cases c2 : 1 ≤ v ∧ v ≤ 999
        · rw [if_pos c2, if_neg (by omega), sd_wid (by omega) (by omega), if_pos (by omega), sd_tn62 c.1.1, if_pos (by
            by_cases c3 : v = M 341 (62 + f.toNat)
            · exact c3.symm
            · exact absurd ⟨c2, c3⟩ d)]
        · rw [if_neg c2, if_pos rfl]
  · refine ⟨-1, M, M, ?_, ?_, h⟩
    · unfold f_X9_write
      rw [iv_isLine h, if_neg c, Option.bind_some]
      rfl
    · unfold f_X10_write
      rw [rf_isLine ok, if_neg c, Option.bind_some]
      rfl
theorem sp_day : sd_S0 sd_Iv f_X9_day f_X10_day := by
  intro M h
  have ok := iv_ok h
  have sl := iv_sl h
  have sp := iv_sp h
  have bk := iv_bk h
  have d0 := sl.2.1
  by_cases c : M 341 0 = 1 ∧ M 341 58 < 999
  · obtain ⟨c1, c2⟩ := c
    obtain ⟨W, w1, w2⟩ := iv_F2 h
    obtain ⟨N1, e1, p1, b1, p2⟩ := cl_rem h
    have r1 : cl_rm M N1 := ⟨p1, p2⟩
    have fr := r1.2.2.2.2
    have pn := h.2.2.1.1.2.2
    have w1' : cl_W N1 (cl_ra (M 58 3) (M 0 4)) W := cl_W_c w1 (fun a ha _ => fr a (by omega) (by omega))
    obtain ⟨v, N2, e2, v2, b2, f2⟩ := cl_pass (M := N1) (b := 66) (by omega) ok b1 (cl_rm_tn h r1) (by omega) w1'
    have h31 : N2 331 = M 331 := cl_hi h r1 f2 (by omega)
    have h41 : N2 341 = M 341 := cl_hi h r1 f2 (by omega)
    obtain ⟨_, K, e3, k1, k2, k3, k4⟩ := rf_ka2 h h31 h41
    have w2' : rf_W K (K 331 21) W := by
      rw [k3]
      exact rf_W_c w2 (by rw [k4 333 (by omega) (by omega), cl_hi h r1 f2 (by omega)]) (by rw [k4 335 (by omega) (by omega), cl_hi h r1 f2 (by omega)]) (by rw [k4 336 (by omega) (by omega), cl_hi h r1 f2 (by omega)])
    obtain ⟨u, L, e4, u2, l1, l2⟩ := rf_step (M0 := K) (M := K) k2 rf_d_rf ok (by omega) w2'
    have t58 : ms_ps W (M 341) 58 = M 341 58 + 1 := ms_ps_58 ok
    refine ⟨if v = -1 then -2 else v, N2, L, ?_, ?_, iv_act2 h ⟨ms_ps_ok ok, by omega⟩ (ms_ou_ps ok) r1 f2 b2 k1 l1 l2⟩
    · unfold f_X9_day
      rw [if_neg (by omega), bk.1.1.2.1, if_pos c2, e1, Option.bind_some]
      simp only []
      rw [cl_rif, Option.bind_some]
      simp only []
      rw [fr 58 (by omega) (by omega), r1.2.1, e2, Option.bind_some]
      simp only []
      split <;> rfl
    · unfold f_X10_day
      rw [rf_sl1 (by rw [h41]; exact c1), Option.bind_some]
      simp only []
      rw [if_neg (by omega), h41, if_neg (by omega), e3, Option.bind_some]
      simp only []
      rw [e4, Option.bind_some, u2, v2]
      simp only []
      rcases ms_ch_b ok (W := W) with g | g
      · rw [if_neg (by omega), if_pos g]
      · rw [if_pos (by omega), if_neg (by omega)]
  · refine ⟨-1, M, M, ?_, ?_, h⟩
    · unfold f_X9_day
      by_cases c1 : M 59 0 = 0
      · rw [if_pos c1]
      · rw [if_neg c1, bk.1.1.2.1, if_neg (by omega)]
    · unfold f_X10_day
      rw [rf_isSlip, Option.bind_some]
      simp only []
      by_cases c1 : M 341 0 = 1
      · rw [if_pos c1, if_neg (by omega), if_pos (by omega)]
      · rw [if_neg c1, if_pos rfl]
