/-! by which rule: ruled -/
theorem iv_WW {M : sd_M} (h : sd_Iv M) : ∃ WW : Nat → (Nat → Int) → Int → Int, ∀ i : Nat, (i : Int) ≤ M 331 2 → cl_W M (cl_ra ((i : Int) - 1) (M 0 4)) (WW i) ∧ rf_W M ((i : Int) - 1) (WW i) := by
  have e : ∀ i : Nat, ∃ W, (i : Int) ≤ M 331 2 → cl_W M (cl_ra ((i : Int) - 1) (M 0 4)) W ∧ rf_W M ((i : Int) - 1) W := fun i => by
    by_cases c : (i : Int) ≤ M 331 2
    · obtain ⟨W, a, b⟩ := iv_W2 h (z := (i : Int) - 1) (by omega)
      exact ⟨W, fun _ => ⟨a, b⟩⟩
    · exact ⟨fun _ _ => 0, fun x => absurd x c⟩
  exact ⟨fun i => Classical.choose (e i), fun i => Classical.choose_spec (e i)⟩
def ms_pw (WW : Nat → (Nat → Int) → Int → Int) (S : Nat → Int) (i : Nat) : Bool := ms_ac S (ms_co (WW i) (ms_bg S)) 31 0
theorem cl_ruled_l {M0 : sd_M} (h : sd_Iv M0) {WW : Nat → (Nat → Int) → Int → Int} (hW : ∀ i : Nat, (i : Int) ≤ M0 331 2 → cl_W M0 (cl_ra ((i : Int) - 1) (M0 0 4)) (WW i)) {R : Nat} (hR : M0 331 2 = R) (w : Int) : ∀ (m i fu : Nat) (M : sd_M), i + m = R + 1 → m < fu → cl_qf M0 M → ms_T (f_X9_ruled_33 f_X9_ruled_90 fu w (ms_ct (ms_pw WW (M0 341)) i) (ms_ff (ms_pw WW (M0 341)) (fun i => (i : Int) - 1) (-2) i) ((i : Int) - 1) M) (fun r N => r = (if w = 0 then ms_ct (ms_pw WW (M0 341)) (R + 1) else ms_ff (ms_pw WW (M0 341)) (fun i => (i : Int) - 1) (-2) (R + 1)) ∧ cl_qf M0 N) := by
  have ok := iv_ok h
  have r1 := h.2.1.1
  intro m
  induction m with
  | zero =>
    intro i fu M hi hf q
    obtain ⟨fu, rfl⟩ : ∃ g, fu = g + 1 := ⟨fu - 1, by omega⟩
    rw [f_X9_ruled_33, q 0 (by omega) (fun r _ => by omega), if_pos (by omega), f_X9_ruled_90, show i = R + 1 by omega]
    by_cases w0 : w = 0
    · rw [if_pos w0, if_pos w0]
      exact ms_t_r ⟨rfl, q⟩
    · rw [if_neg w0, if_neg w0]
      exact ms_t_r ⟨rfl, q⟩
  | succ m ih =>
    intro i fu M hi hf q
    obtain ⟨fu, rfl⟩ : ∃ g, fu = g + 1 := ⟨fu - 1, by omega⟩
    have hM := cl_qf_iv h q
    have e : M 341 = M0 341 := cl_qf_hi q (by omega)
    have tw := iv_tw hM
    rw [e] at tw
    have cb := ms_ct_b (p := ms_pw WW (M0 341)) i
    rw [f_X9_ruled_33, q 0 (by omega) (fun r _ => by omega), if_neg (by omega)]
    refine ms_t_b (cl_begin_k (M := M) (b := 318) (by omega) ok.1 tw) (fun _ N hN => ?_)
    simp only []
    have q2 : cl_qf M0 N := cl_qf_tr q (cl_qf_fr hN.2)
    rw [cl_ruleAt, Option.bind_some]
    simp only []
    rw [q2 0 (by omega) (fun r _ => by omega)]
    refine ms_t_b (cl_goes h (ms_bg_ok ok.1) (ms_bg_0 ok.1.2.1.2 (by omega) (by omega) (by omega)) (fun j hj => ms_bg_lo (by omega)) (hW i (by omega)) q2 hN.1) (fun v K hK => ?_)
    simp only [f_X9_ruled_84, f_X9_ruled_83]
    rw [sd_wid (z := (i : Int) - 1 + 1) (by omega) (by omega), hK.1]
    have up := ih (i + 1) fu K (by omega) (by omega) hK.2
    have ct1 : ms_ct (ms_pw WW (M0 341)) (i + 1) = ms_ct (ms_pw WW (M0 341)) i + if ms_pw WW (M0 341) i = true then 1 else 0 := rfl
    have ff1 : ms_ff (ms_pw WW (M0 341)) (fun i => (i : Int) - 1) (-2) (i + 1) = if ms_pw WW (M0 341) i = true ∧ ms_ct (ms_pw WW (M0 341)) i = 0 then (i : Int) - 1 else ms_ff (ms_pw WW (M0 341)) (fun i => (i : Int) - 1) (-2) i := rfl
    rw [ct1, ff1] at up
    push_cast at up
    rw [show (i : Int) + 1 - 1 = (i : Int) - 1 + 1 by omega] at up
    have pe : ms_ac (M0 341) (ms_co (WW i) (ms_bg (M0 341))) 31 0 = ms_pw WW (M0 341) i := rfl
    rw [pe]
    cases c : ms_pw WW (M0 341) i
    · rw [c, if_neg (by simp), if_neg (by simp), Int.add_zero] at up
      rw [ms_i0 (by simp), if_pos rfl]
      exact up
    · rw [c, if_pos rfl] at up
      rw [ms_i1 rfl, if_neg (by omega), sd_wid (by omega) (by omega)]
      by_cases z : ms_ct (ms_pw WW (M0 341)) i = 0
      · rw [if_pos ⟨rfl, z⟩] at up
        rw [if_pos (by omega)]
        exact up
      · rw [if_neg (fun y => z y.2)] at up
        rw [if_neg (by omega)]
        exact up
/-- the reference, its rule in force set aside -/
def rf_z (M N : sd_M) : Prop := (∀ a, a ≠ 331 → (a < 339 ∨ 345 ≤ a) → ¬ (350 ≤ a ∧ a < 353) → N a = M a) ∧ ∀ j, j ≠ 18 → j ≠ 21 → N 331 j = M 331 j
theorem rf_z_rf {M : sd_M} : rf_z M M := ⟨fun _ _ _ _ => rfl, fun _ _ _ => rfl⟩
theorem rf_z_tr {M N K : sd_M} (h : rf_z M N) (g : rf_z N K) : rf_z M K := ⟨fun a x y z => (g.1 a x y z).trans (h.1 a x y z), fun j x y => (g.2 j x y).trans (h.2 j x y)⟩
theorem rf_z_y {M N : sd_M} (h : rf_y M N) : rf_z M N := ⟨h.1, fun j x _ => h.2 j x⟩
theorem rf_z_s {M : sd_M} {v : Int} : rf_z M (sd_s M 331 21 v) := ⟨fun a x _ _ => sd_s_a x, fun j _ y => sd_s_j y⟩
theorem rf_W_z {M N : sd_M} {z : Int} {W : (Nat → Int) → Int → Int} (h : rf_W M z W) (q : rf_z M N) : rf_W N z W := rf_W_c h (q.1 333 (by omega) (by omega) (by omega)) (q.1 335 (by omega) (by omega) (by omega)) (q.1 336 (by omega) (by omega) (by omega))
/-- what fits, and whom each rule takes -/
def rf_ft (M : sd_M) (WW : Nat → (Nat → Int) → Int → Int) (S : Nat → Int) (r : Nat) : Prop := ∀ j, j < r → M 351 j = (if ms_pw WW S j = true then 1 else 0) ∧ ∀ d, d < 31 → M 352 (31 * j + d) = ms_co (WW j) (ms_bg S) d
theorem rf_fits_l {M0 : sd_M} {S : Nat → Int} (ok : ms_ok S) (no : 0 ≤ S 127 ∧ S 127 ≤ 10) {WW : Nat → (Nat → Int) → Int → Int} {R : Nat} (hR : M0 331 2 = R) (r6 : R ≤ 6) (hW : ∀ i : Nat, (i : Int) ≤ M0 331 2 → rf_W M0 ((i : Int) - 1) (WW i)) (kk : Int → sd_M → Option (Int × sd_M)) (was : Int) : ∀ (m r fu : Nat) (M : sd_M), r + m = R + 1 → m < fu → ms_ou S (M 341) → rf_z M0 M → rf_ft M WW S r → ∃ N, ms_ou S (N 341) ∧ rf_z M0 N ∧ rf_ft N WW S (R + 1) ∧ f_X10_fillsFits_11 kk fu was (r : Int) M = kk was N := by
  intro m
  induction m with
  | zero =>
    intro r fu M hr hf ou z ft
    obtain ⟨fu, rfl⟩ : ∃ g, fu = g + 1 := ⟨fu - 1, by omega⟩
    rw [show r = R + 1 by omega] at ft
    refine ⟨M, ou, z, ft, ?_⟩
    rw [f_X10_fillsFits_11, z.2 2 (by omega) (by omega), if_pos (by omega)]
  | succ m ih =>
    intro r fu M hr hf ou z ft
    obtain ⟨fu, rfl⟩ : ∃ g, fu = g + 1 := ⟨fu - 1, by omega⟩
    have r41 : sd_s M 331 21 ((r : Int) - 1) 341 = M 341 := sd_s_a (by omega)
    have z2 : rf_z M0 (sd_s M 331 21 ((r : Int) - 1)) := rf_z_tr z rf_z_s
    have w2 : rf_W (sd_s M 331 21 ((r : Int) - 1)) (sd_s M 331 21 ((r : Int) - 1) 331 21) (WW r) := by
      rw [sd_s_at]
      exact rf_W_z (hW r (by omega)) z2
    obtain ⟨v, N, e1, v1, n1, n2, n3, n4⟩ := rf_areAllSo (M := sd_s M 331 21 ((r : Int) - 1)) (by rw [r41]; exact ms_tl_c (fun i hi => ou i (by omega)) ok.1) (by rw [r41, ou 127 (by omega)]; exact no) w2 (r := r) (by omega)
    rw [r41] at v1 n1 n3
    rw [ms_bg_c ok.1.2.1.2 (fun i hi => ou i hi)] at v1 n3
    rw [ms_ac_s (S := S) (T := M 341) (fun i hi => ou i (by omega))] at v1
    have v2 : v = (if ms_pw WW S r = true then 1 else 0) := v1
    have vb : v = 0 ∨ v = 1 := by
      rw [v2]
      split
      · exact Or.inr rfl
      · exact Or.inl rfl
    rw [sd_s_a (show (352 : Nat) ≠ 331 by omega)] at n3
    rw [sd_s_a (show (351 : Nat) ≠ 331 by omega)] at n4
    obtain ⟨K, k1, k2, k3, k4⟩ := ih (r + 1) fu (sd_s N 351 r v) (by omega) (by omega) (by rw [sd_s_a (by omega)]; exact ms_ou_tr ou n1) (rf_z_tr z2 (rf_z_y (rf_y_tr n2 (rf_y_s (by omega))))) (fun j hj => by
      rw [sd_s_a (show (352 : Nat) ≠ 351 by omega)]
      by_cases c : j = r
      · subst c
        refine ⟨by rw [sd_s_at]; exact v2, fun d hd => ?_⟩
        rw [n3, if_pos (by omega), show 31 * j + d - 31 * j = d by omega]
      · rw [sd_s_j c, n4]
        refine ⟨(ft j (by omega)).1, fun d hd => ?_⟩
        rw [n3, if_neg (by omega)]
        exact (ft j (by omega)).2 d hd)
    refine ⟨K, k1, k2, k3, ?_⟩
    push_cast at k4
    rw [f_X10_fillsFits_11, z.2 2 (by omega) (by omega), if_neg (by omega), sd_wid (z := (r : Int) - 1) (by omega) (by omega), e1, Option.bind_some]
    simp only []
    rw [if_pos vb, if_pos (by omega), sd_wid (z := (r : Int) + 1) (by omega) (by omega), Int.toNat_natCast]
    exact k4
theorem rf_fits {M : sd_M} (h : sd_Iv M) {WW : Nat → (Nat → Int) → Int → Int} {R : Nat} (hR : M 331 2 = R) (hW : ∀ i : Nat, (i : Int) ≤ M 331 2 → rf_W M ((i : Int) - 1) (WW i)) : ms_T (f_X10_fillsFits M) (fun _ N => N 341 = M 341 ∧ rf_ft N WW (M 341) (R + 1) ∧ rf_q M N) := by
  have ok := iv_ok h
  have sl := iv_sl h
  have r1 := h.2.1.1
  unfold f_X10_fillsFits
  refine ms_t_b rf_keeps (fun _ K hK => ?_)
  simp only []
  have eK : K 341 = M 341 := hK.1 341 (by omega)
  obtain ⟨N, n1, n2, n3, n4⟩ := rf_fits_l (M0 := K) (S := M 341) ok sl.2.2.1 (WW := WW) (R := R) (by rw [hK.1 331 (by omega), hR]) (by omega) (fun i hi => rf_W_kp (hW i (by rw [hK.1 331 (by omega)] at hi; exact hi)) hK.1) f_X10_fillsFits_43 (M 331 21) (R + 1) 0 4000 K (by omega) (by omega) (by rw [eK]; exact ms_ou_rf) rf_z_rf (fun j hj => by omega)
  have n4' : f_X10_fillsFits_11 f_X10_fillsFits_43 4000 (M 331 21) 0 K = _ := n4
  rw [n4']
  unfold f_X10_fillsFits_43
  have kp : rf_kp (sd_s N 331 21 (M 331 21)) (M 341) := fun k hk => by
    rw [sd_s_a (by omega), n2.1 346 (by omega) (by omega) (by omega)]
    exact hK.2 k hk
  refine ms_t_b (rf_laysBack (M := sd_s N 331 21 (M 331 21)) (S := M 341) kp (by rw [sd_s_a (by omega)]; exact n1)) (fun _ L hL => ms_t_r ⟨hL.1, fun j hj => ?_, fun a ha => ?_, fun j hj => ?_⟩)
  · have f := n3 j hj
    simp only []
    rw [hL.2 351 (by omega), hL.2 352 (by omega), sd_s_a (by omega), sd_s_a (by omega)]
    exact f
  · have := iv_cx ha
    simp only []
    by_cases c : a = 341
    · rw [c, hL.1]
    · rw [hL.2 a c]
      rw [sd_s_a (by omega), n2.1 a (by omega) (by omega) (by omega), hK.1 a (by omega)]
  · simp only []
    rw [hL.2 331 (by omega)]
    by_cases c : j = 21
    · rw [c, sd_s_at]
    · rw [sd_s_j c, n2.2 j (by omega) c, hK.1 331 (by omega)]
theorem rf_ruled_l {M : sd_M} {WW : Nat → (Nat → Int) → Int → Int} {S : Nat → Int} {R : Nat} (r6 : R ≤ 6) (ft : rf_ft M WW S (R + 1)) (w : Int) : ∀ (n fu : Nat) (x : Int), n ≤ R + 1 → n < fu → ms_fx (ms_pw WW S) (fun i => (i : Int) - 1) (-2) n (R + 1) x → f_X10_ruled_35 f_X10_ruled_67 fu w (ms_ct (ms_pw WW S) (R + 1) - ms_ct (ms_pw WW S) n) x ((n : Int) - 1) M = some (if w = 0 then ms_ct (ms_pw WW S) (R + 1) else ms_ff (ms_pw WW S) (fun i => (i : Int) - 1) (-2) (R + 1), M) := by
  have cbR := ms_ct_b (p := ms_pw WW S) (R + 1)
  intro n
  induction n with
  | zero =>
    intro fu x hn hf hx
    obtain ⟨fu, rfl⟩ : ∃ g, fu = g + 1 := ⟨fu - 1, by omega⟩
    have c0 : ms_ct (ms_pw WW S) 0 = 0 := rfl
    rw [f_X10_ruled_35, if_pos (by omega), f_X10_ruled_67, c0, Int.sub_zero, ms_fx_u hx (ms_ff_x (R + 1))]
    by_cases w0 : w = 0
    · rw [if_pos w0, if_pos w0]
    · rw [if_neg w0, if_neg w0]
  | succ n ih =>
    intro fu x hn hf hx
    obtain ⟨fu, rfl⟩ : ∃ g, fu = g + 1 := ⟨fu - 1, by omega⟩
    have cb := ms_ct_b (p := ms_pw WW S) n
    have up := ih fu _ (by omega) (by omega) (ms_fx_dn (by omega) hx)
    have ct1 : ms_ct (ms_pw WW S) (n + 1) = ms_ct (ms_pw WW S) n + if ms_pw WW S n = true then 1 else 0 := rfl
    rw [show ((n + 1 : Nat) : Int) - 1 = n by push_cast; omega, f_X10_ruled_35, if_neg (by omega), if_pos (by omega), Int.toNat_natCast, (ft n (by omega)).1, f_X10_ruled_61, f_X10_ruled_61, sd_wid (z := (n : Int) + (-1)) (by omega) (by omega), show (n : Int) + (-1) = (n : Int) - 1 by omega, sd_wid (z := (n : Int) - 1) (by omega) (by omega), ct1]
    cases c : ms_pw WW S n
    · rw [c, if_neg (by simp)] at up
      rw [ms_i0 (by simp), if_pos rfl, Int.add_zero]
      exact up
    · rw [c, if_pos rfl] at up
      rw [ms_i1 rfl, if_neg (by omega), show ms_ct (ms_pw WW S) (R + 1) - (ms_ct (ms_pw WW S) n + 1) + 1 = ms_ct (ms_pw WW S) (R + 1) - ms_ct (ms_pw WW S) n by omega, sd_wid (by omega) (by omega)]
      exact up
theorem sp_ruled : sd_S1 sd_Iv f_X9_ruled f_X10_ruled := iv_q1 (fun M h w hw => by
  have ok := iv_ok h
  have sp := iv_sp h
  have r1 := h.2.1.1
  obtain ⟨WW, hWW⟩ := iv_WW h
  obtain ⟨R, hR⟩ : ∃ R : Nat, M 331 2 = R := ⟨(M 331 2).toNat, by omega⟩
  by_cases c : M 341 0 = 1
  · by_cases d : 0 ≤ w ∧ w ≤ 1
    · refine ⟨if w = 0 then ms_ct (ms_pw WW (M 341)) (R + 1) else ms_ff (ms_pw WW (M 341)) (fun i => (i : Int) - 1) (-2) (R + 1), ?_, fun N hN q => ?_⟩
      · unfold f_X9_ruled
        rw [if_neg (by omega), if_neg (by omega), if_pos (by omega)]
        exact cl_ruled_l h (fun i hi => (hWW i hi).1) hR w (R + 1) 0 4000 M (by omega) (by omega) cl_qf_rf
      · have e : N 341 = M 341 := cl_qf_hi q (by omega)
        have e31 : N 331 = M 331 := cl_qf_hi q (by omega)
        unfold f_X10_ruled
        rw [rf_sl1 (by rw [e]; exact c), Option.bind_some]
        simp only []
        rw [if_neg (by omega), rf_in1 d, Option.bind_some]
        simp only []
        rw [if_neg (by omega)]
        refine ms_t_b (rf_fits hN (WW := WW) (R := R) (by rw [e31, hR]) (fun i hi => rf_W_q (hWW i (by rw [e31] at hi; exact hi)).2 q)) (fun _ K hK => ?_)
        simp only []
        rw [e] at hK
        have k2 : K 331 2 = R := by rw [hK.2.2.2 2 (by omega), e31, hR]
        have z := rf_ruled_l (by omega) hK.2.1 w (R + 1) 4000 (-2) (by omega) (by omega) ms_fx_0
        rw [Int.sub_self, show ((R + 1 : Nat) : Int) - 1 = R by push_cast; omega] at z
        rw [k2, z]
        exact ms_t_r ⟨rfl, hK.2.2⟩
    · refine ⟨-3, ?_, fun N hN q => ?_⟩
      · unfold f_X9_ruled
        rw [if_neg (by omega)]
        by_cases g : w < 0
        · rw [if_pos g]
          exact ms_t_r ⟨rfl, cl_qf_rf⟩
        · rw [if_neg g, if_neg (by omega)]
          exact ms_t_r ⟨rfl, cl_qf_rf⟩
      · unfold f_X10_ruled
        rw [rf_sl1 (by rw [cl_qf_hi q (show 331 ≤ 341 by omega)]; exact c), Option.bind_some]
        simp only []
        rw [if_neg (by omega), rf_in0 d, Option.bind_some]
        exact ms_t_r ⟨rfl, rf_q_rf⟩
  · refine ⟨-3, ?_, fun N hN q => ?_⟩
    · unfold f_X9_ruled
      rw [if_pos (by omega)]
      exact ms_t_r ⟨rfl, cl_qf_rf⟩
    · unfold f_X10_ruled
      rw [rf_sl0 (by rw [cl_qf_hi q (show 331 ≤ 341 by omega)]; exact c), Option.bind_some]
      exact ms_t_r ⟨rfl, rf_q_rf⟩)
