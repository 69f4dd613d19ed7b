/-! rests: the reference fills, both look -/
def rf_y (M N : sd_M) : Prop := (∀ a, a ≠ 331 → (a < 339 ∨ 345 ≤ a) → ¬ (350 ≤ a ∧ a < 353) → N a = M a) ∧ ∀ j, j ≠ 18 → N 331 j = M 331 j
theorem rf_y_rf {M : sd_M} : rf_y M M := ⟨fun _ _ _ _ => rfl, fun _ _ => rfl⟩
theorem rf_y_tr {M N K : sd_M} (h : rf_y M N) (g : rf_y N K) : rf_y M K := ⟨fun a x y z => (g.1 a x y z).trans (h.1 a x y z), fun j x => (g.2 j x).trans (h.2 j x)⟩
theorem rf_y_d {M N : sd_M} (h : rf_d M N) : rf_y M N := ⟨fun a x y z => h.1 a x (by omega) (by omega) (by omega) (by omega) (by omega) (by omega), h.2⟩
theorem rf_y_s {M : sd_M} {a i : Nat} {v : Int} (h : 339 ≤ a ∧ a < 345 ∨ 350 ≤ a ∧ a < 353) : rf_y M (sd_s M a i v) := ⟨fun b x y z => sd_s_a (by omega), fun j _ => by rw [sd_s_a (by omega)]⟩
theorem rf_y_41 {M N : sd_M} (h : ∀ a, a ≠ 341 → N a = M a) : rf_y M N := rf_y_d (rf_d_41 h)
theorem rf_q_y {M N : sd_M} (h : rf_y M N) (e : N 341 = M 341) : rf_q M N := ⟨fun a ha => by
  have := iv_cx ha
  by_cases c : a = 341
  · rw [c, e]
  · exact h.1 a (by omega) (by omega) (by omega), fun j hj => h.2 j (by omega)⟩
theorem rf_kp_y {M N : sd_M} {S : Nat → Int} (h : rf_kp M S) (e : rf_y M N) : rf_kp N S := fun k hk => by
  rw [e.1 346 (by omega) (by omega) (by omega)]
  exact h k hk
theorem rf_times {M : sd_M} (ok : ms_ok (M 341)) {p i : Nat} (hp : (p : Int) < M 341 2) (hi : i < 3) : f_X10_timesOf (p : Int) (1 + (i : Int)) M = some (ms_tm (M 341) p i, M) := by
  have l := ms_lines ok
  have t := ms_tm_b ok hp hi
  have e : (1 + (i : Int)) * M 341 (62 + p) = M 341 (62 + p) * ((i : Int) + 1) := by
    rw [Int.mul_comm, Int.add_comm]
  unfold f_X10_timesOf
  rw [sd_wid (z := 62 + (p : Int)) (by omega) (by omega), if_pos (by omega), show (62 + (p : Int)).toNat = 62 + p by omega, e, sd_wid (by omega) (by omega)]
  unfold ms_tm
  by_cases c : M 341 (62 + p) * ((i : Int) + 1) < 999
  · rw [if_neg (by omega), if_pos c]
  · rw [if_pos (by omega), if_neg c]
theorem rf_fills {M : sd_M} {S : Nat → Int} (e : M 341 = S) (ok : ms_ok S) (kp : rf_kp M S) {p o c : Nat} (hp : (p : Int) < S 2) (ho : (o : Int) < S 2) (hc : c < 9) : ms_T (f_X10_fillsRest (p : Int) (o : Int) (c : Int) M) (fun _ N => N 341 = S ∧ (∀ x, N 350 x = if x = 2 * c + 1 then ms_gn S p o x else if x = 2 * c then ms_gn S p o x else M 350 x) ∧ rf_y M N) := by
  have l := ms_lines ok
  have okM : ms_ok (M 341) := by
    rw [e]
    exact ok
  have ok2 := ms_rw_ok ok hp ho (i := c / 3) (j := c % 3) (by omega) (by omega)
  have ok3 := ms_st_ok ok2
  have b1 := ms_sg_b ok3 (p : Int)
  have b2 := ms_sg_b ok3 (o : Int)
  have t1 := (ms_tm_b ok hp (i := c / 3) (by omega)).1
  have t2 := (ms_tm_b ok ho (i := c % 3) (by omega)).1
  have g0 := ms_gn_0 (S := S) (p := p) (o := o) (i := c / 3) (j := c % 3) (by omega)
  have g1 := ms_gn_1 (S := S) (p := p) (o := o) (i := c / 3) (j := c % 3) (by omega)
  rw [show 3 * (c / 3) + c % 3 = c by omega] at g0 g1
  have d1 : Int.tdiv (c : Int) 3 = ((c / 3 : Nat) : Int) := by rw [ms_tdiv (by omega)]; rfl
  have d2 : Int.tmod (c : Int) 3 = ((c % 3 : Nat) : Int) := by rw [ms_tmod (by omega)]; rfl
  have r1 := rf_times okM (p := p) (i := c / 3) (by rw [e]; exact hp) (by omega)
  have r2 := rf_times okM (p := o) (i := c % 3) (by rw [e]; exact ho) (by omega)
  rw [e] at r1 r2
  have r41 : sd_s (sd_s M 341 (62 + p) (ms_tm S p (c / 3))) 341 (62 + o) (ms_tm S o (c % 3)) 341 = ms_rw S p o (c / 3) (c % 3) := by
    rw [sd_s_row, sd_s_row, e]
    rfl
  unfold f_X10_fillsRest
  rw [d1, d2, sd_wid (z := ((c / 3 : Nat) : Int)) (by omega) (by omega), sd_wid (z := 1 + ((c / 3 : Nat) : Int)) (by omega) (by omega), sd_wid (z := 1 + ((c % 3 : Nat) : Int)) (by omega) (by omega), r1, Option.bind_some]
  simp only []
  rw [r2, Option.bind_some]
  simp only []
  rw [sd_wid (z := 62 + (p : Int)) (by omega) (by omega), sd_wid (z := 62 + (o : Int)) (by omega) (by omega), if_pos (by omega), if_pos (by omega), show (62 + (p : Int)).toNat = 62 + p by omega, show (62 + (o : Int)).toNat = 62 + o by omega, sd_wid (z := 2 * (c : Int)) (by omega) (by omega), sd_wid (z := 2 * (c : Int) + 1) (by omega) (by omega), show (2 * (c : Int)).toNat = 2 * c by omega, show (2 * (c : Int) + 1).toNat = 2 * c + 1 by omega]
  refine ms_t_b (rf_settlesAll (M := sd_s (sd_s M 341 (62 + p) (ms_tm S p (c / 3))) 341 (62 + o) (ms_tm S o (c % 3))) (by rw [r41]; exact ok2)) (fun _ N1 h1 => ?_)
  rw [r41] at h1
  simp only []
  have y1 : rf_y M N1 := rf_y_tr (rf_y_tr (rf_y_s (by omega)) (rf_y_s (by omega))) (rf_y_d (rf_d_g h1.2))
  have m1 : N1 350 = M 350 := by rw [h1.2 350 (by omega) (by omega) (by omega) (by omega), sd_s_a (by omega), sd_s_a (by omega)]
  refine ms_t_b (rf_signedOf (M := N1) (by rw [h1.1]; exact ok3) (p : Int)) (fun v1 N2 h2 => ?_)
  rw [h1.1] at h2
  simp only []
  rw [if_pos (by omega), h2.1, sd_wid (z := 3 * ms_sg (ms_st (ms_rw S p o (c / 3) (c % 3))) (p : Int)) (by omega) (by omega), sd_wid (z := 3 * ms_sg (ms_st (ms_rw S p o (c / 3) (c % 3))) (p : Int) - ms_tm S p (c / 3)) (by omega) (by omega), ← g0]
  have s41 : sd_s N2 350 (2 * c) (ms_gn S p o (2 * c)) 341 = ms_st (ms_rw S p o (c / 3) (c % 3)) := by rw [sd_s_a (by omega), rf_f_41 h2.2, h1.1]
  refine ms_t_b (rf_signedOf (M := sd_s N2 350 (2 * c) (ms_gn S p o (2 * c))) (by rw [s41]; exact ok3) (o : Int)) (fun v2 N3 h3 => ?_)
  rw [s41] at h3
  simp only []
  rw [if_pos (by omega), h3.1, sd_wid (z := 3 * ms_sg (ms_st (ms_rw S p o (c / 3) (c % 3))) (o : Int)) (by omega) (by omega), sd_wid (z := 3 * ms_sg (ms_st (ms_rw S p o (c / 3) (c % 3))) (o : Int) - ms_tm S o (c % 3)) (by omega) (by omega), ← g1]
  have y3 : rf_y M (sd_s N3 350 (2 * c + 1) (ms_gn S p o (2 * c + 1))) := rf_y_tr (rf_y_tr (rf_y_tr (rf_y_tr y1 (rf_y_d (rf_d_f h2.2))) (rf_y_s (by omega))) (rf_y_d (rf_d_f h3.2))) (rf_y_s (by omega))
  have z41 : sd_s N3 350 (2 * c + 1) (ms_gn S p o (2 * c + 1)) 341 = ms_st (ms_rw S p o (c / 3) (c % 3)) := by rw [sd_s_a (by omega), rf_f_41 h3.2, s41]
  refine ms_t_b (rf_laysBack (M := sd_s N3 350 (2 * c + 1) (ms_gn S p o (2 * c + 1))) (S := S) (rf_kp_y kp y3) (by rw [z41]; exact ms_ou_tr (ms_rw_ou ok hp ho) (ms_ou_st ok2))) (fun _ N4 h4 => ms_t_r ⟨h4.1, fun x => ?_, rf_y_tr y3 (rf_y_41 h4.2)⟩)
  simp only []
  rw [h4.2 350 (by omega)]
  by_cases x1 : x = 2 * c + 1
  · rw [if_pos x1, x1, sd_s_at]
  · rw [if_neg x1, sd_s_j x1, h3.2 350 (by omega) (by omega) (by omega)]
    by_cases x2 : x = 2 * c
    · rw [if_pos x2, x2, sd_s_at]
    · rw [if_neg x2, sd_s_j x2, h2.2 350 (by omega) (by omega) (by omega), m1]
theorem rf_rests_42 {M0 : sd_M} {S : Nat → Int} (ok : ms_ok S) {p o : Nat} (hp : (p : Int) < S 2) (ho : (o : Int) < S 2) (kk : Int → sd_M → Option (Int × sd_M)) (w : Int) : ∀ (m c fu : Nat) (M : sd_M), c + m = 9 → m < fu → M 341 = S → rf_kp M S → rf_y M0 M → (∀ x, x < 2 * c → M 350 x = ms_gn S p o x) → ∃ N, N 341 = S ∧ rf_y M0 N ∧ (∀ x, x < 18 → N 350 x = ms_gn S p o x) ∧ f_X10_rests_42 kk fu (p : Int) (o : Int) w (c : Int) M = kk w N := by
  intro m
  induction m with
  | zero =>
    intro c fu M hc hf e kp y g
    obtain ⟨fu, rfl⟩ : ∃ g, fu = g + 1 := ⟨fu - 1, by omega⟩
    refine ⟨M, e, y, fun x hx => g x (by omega), ?_⟩
    rw [f_X10_rests_42, if_pos (by omega)]
  | succ m ih =>
    intro c fu M hc hf e kp y g
    obtain ⟨fu, rfl⟩ : ∃ g, fu = g + 1 := ⟨fu - 1, by omega⟩
    obtain ⟨r, N, e1, n1, n2, n3⟩ := rf_fills e ok kp hp ho (c := c) (by omega)
    obtain ⟨K, k1, k2, k3, k4⟩ := ih (c + 1) fu N (by omega) (by omega) n1 (rf_kp_y kp n3) (rf_y_tr y n3) (fun x hx => by
      rw [n2 x]
      by_cases c1 : x = 2 * c + 1
      · rw [if_pos c1]
      · rw [if_neg c1]
        by_cases c2 : x = 2 * c
        · rw [if_pos c2]
        · rw [if_neg c2]
          exact g x (by omega))
    refine ⟨K, k1, k2, k3, ?_⟩
    push_cast at k4
    rw [f_X10_rests_42, if_neg (by omega), e1, Option.bind_some, sd_wid (by omega) (by omega)]
    exact k4
def ms_ir (G : Nat → Int) (i j : Nat) : Nat → Nat → Bool
  | 0, _ => true
  | m + 1, k => if G (2 * (3 * i + j)) < G (2 * (3 * k + j)) then false else if G (2 * (3 * i + k) + 1) ≤ G (2 * (3 * i + j) + 1) then ms_ir G i j m (k + 1) else false
theorem ms_ixa {a b : Nat} (ha : a < 3) (hb : b < 3) : sd_w (2 * sd_w (sd_w ((a : Int) * 3) + (b : Int))) = ((2 * (3 * a + b) : Nat) : Int) := by
  rw [sd_wid (z := (a : Int) * 3) (by omega) (by omega), sd_wid (z := (a : Int) * 3 + (b : Int)) (by omega) (by omega), sd_wid (by omega) (by omega)]
  push_cast
  omega
theorem ms_ixb {a b : Nat} (ha : a < 3) (hb : b < 3) : sd_w (2 * sd_w (sd_w (3 * (a : Int)) + (b : Int))) = ((2 * (3 * a + b) : Nat) : Int) := by
  rw [sd_wid (z := 3 * (a : Int)) (by omega) (by omega), sd_wid (z := 3 * (a : Int) + (b : Int)) (by omega) (by omega), sd_wid (by omega) (by omega)]
  push_cast
  omega
theorem ms_ixc {n : Nat} (hn : n < 18) : sd_w ((n : Int) + 1) = ((n + 1 : Nat) : Int) := by
  rw [sd_wid (by omega) (by omega)]
  push_cast
  rfl
theorem cl_isRest_l {M : sd_M} {G : Nat → Int} (hG : ∀ x, x < 18 → M 330 x = G x) {i j : Nat} (hi : i < 3) (hj : j < 3) : ∀ (m k fu : Nat), k + m = 3 → m < fu → f_X9_isRest_2 fu (i : Int) (j : Int) (k : Int) M = some (if ms_ir G i j m k = true then 1 else 0, M) := by
  intro m
  induction m with
  | zero =>
    intro k fu hk hf
    obtain ⟨fu, rfl⟩ : ∃ g, fu = g + 1 := ⟨fu - 1, by omega⟩
    rw [f_X9_isRest_2, if_pos (by omega), ms_ir, if_pos rfl]
  | succ m ih =>
    intro k fu hk hf
    obtain ⟨fu, rfl⟩ : ∃ g, fu = g + 1 := ⟨fu - 1, by omega⟩
    have up := ih (k + 1) fu (by omega) (by omega)
    push_cast at up
    rw [f_X9_isRest_2, if_neg (by omega), ms_ixa (a := k) (b := j) (by omega) hj, ms_ixa (a := i) (b := j) hi hj, ms_ixa (a := i) (b := k) hi (by omega), ms_ixc (n := 2 * (3 * i + k)) (by omega), ms_ixc (n := 2 * (3 * i + j)) (by omega), if_pos (by omega), if_pos (by omega), Int.toNat_natCast, Int.toNat_natCast, Int.toNat_natCast, Int.toNat_natCast, hG _ (by omega), hG _ (by omega), hG _ (by omega), hG _ (by omega), ms_ir, sd_wid (by omega) (by omega)]
    by_cases c1 : G (2 * (3 * i + j)) < G (2 * (3 * k + j))
    · rw [if_pos c1, if_pos c1, if_neg (by simp)]
    · rw [if_neg c1, if_neg c1, if_pos (by omega), if_pos (by omega)]
      by_cases c2 : G (2 * (3 * i + k) + 1) ≤ G (2 * (3 * i + j) + 1)
      · rw [if_pos c2, if_pos c2]
        exact up
      · rw [if_neg c2, if_neg c2, if_neg (by simp)]
theorem rf_isRest_l {M : sd_M} {G : Nat → Int} (hG : ∀ x, x < 18 → M 350 x = G x) {i j : Nat} (hi : i < 3) (hj : j < 3) : ∀ (m k fu : Nat), k + m = 3 → m < fu → f_X10_isRest_2 fu (i : Int) (j : Int) (k : Int) M = some (if ms_ir G i j m k = true then 1 else 0, M) := by
  intro m
  induction m with
  | zero =>
    intro k fu hk hf
    obtain ⟨fu, rfl⟩ : ∃ g, fu = g + 1 := ⟨fu - 1, by omega⟩
    rw [f_X10_isRest_2, if_pos (by omega), ms_ir, if_pos rfl]
  | succ m ih =>
    intro k fu hk hf
    obtain ⟨fu, rfl⟩ : ∃ g, fu = g + 1 := ⟨fu - 1, by omega⟩
    have up := ih (k + 1) fu (by omega) (by omega)
    push_cast at up
    rw [f_X10_isRest_2, if_neg (by omega), ms_ixb (a := k) (b := j) (by omega) hj, ms_ixb (a := i) (b := j) hi hj, ms_ixb (a := i) (b := k) hi (by omega), ms_ixc (n := 2 * (3 * i + k)) (by omega), ms_ixc (n := 2 * (3 * i + j)) (by omega), if_pos (by omega), if_pos (by omega), Int.toNat_natCast, Int.toNat_natCast, Int.toNat_natCast, Int.toNat_natCast, hG _ (by omega), hG _ (by omega), hG _ (by omega), hG _ (by omega), ms_ir, sd_wid (by omega) (by omega)]
    by_cases c1 : G (2 * (3 * i + j)) < G (2 * (3 * k + j))
    · rw [if_pos c1, if_pos c1, if_neg (by simp)]
    · rw [if_neg c1, if_neg c1, if_pos (by omega), if_pos (by omega)]
      by_cases c2 : G (2 * (3 * i + k) + 1) ≤ G (2 * (3 * i + j) + 1)
      · rw [if_pos c2, if_pos c2]
        exact up
      · rw [if_neg c2, if_neg c2, if_neg (by simp)]
def ms_pr (G : Nat → Int) (c : Nat) : Bool := ms_ir G (c / 3) (c % 3) 3 0
theorem cl_isRest {M : sd_M} {G : Nat → Int} (hG : ∀ x, x < 18 → M 330 x = G x) {c : Nat} (hc : c < 9) : f_X9_isRest (sd_w (Int.tdiv (c : Int) 3)) (Int.tmod (c : Int) 3) M = some (if ms_pr G c = true then 1 else 0, M) := by
  have d1 : Int.tdiv (c : Int) 3 = ((c / 3 : Nat) : Int) := by rw [ms_tdiv (by omega)]; rfl
  have d2 : Int.tmod (c : Int) 3 = ((c % 3 : Nat) : Int) := by rw [ms_tmod (by omega)]; rfl
  rw [d1, d2, sd_wid (by omega) (by omega)]
  exact cl_isRest_l hG (by omega) (by omega) 3 0 4000 (by omega) (by omega)
theorem rf_isRest {M : sd_M} {G : Nat → Int} (hG : ∀ x, x < 18 → M 350 x = G x) {c : Nat} (hc : c < 9) : f_X10_isRest (sd_w (Int.tdiv (c : Int) 3)) (Int.tmod (c : Int) 3) M = some (if ms_pr G c = true then 1 else 0, M) := by
  have d1 : Int.tdiv (c : Int) 3 = ((c / 3 : Nat) : Int) := by rw [ms_tdiv (by omega)]; rfl
  have d2 : Int.tmod (c : Int) 3 = ((c % 3 : Nat) : Int) := by rw [ms_tmod (by omega)]; rfl
  rw [d1, d2, sd_wid (by omega) (by omega)]
  exact rf_isRest_l hG (by omega) (by omega) 3 0 4000 (by omega) (by omega)
theorem cl_rests_48 {M : sd_M} {G : Nat → Int} (hG : ∀ x, x < 18 → M 330 x = G x) (kk : Int → Int → Int → sd_M → Option (Int × sd_M)) (w : Int) : ∀ (m c fu : Nat) (x : Int), c + m = 9 → m < fu → ms_fx (ms_pr G) (fun i => (i : Int)) (-2) 0 c x → ∃ y, ms_fx (ms_pr G) (fun i => (i : Int)) (-2) 0 9 y ∧ f_X9_rests_48 kk fu w (ms_ct (ms_pr G) c) x (c : Int) M = kk w (ms_ct (ms_pr G) 9) y M := by
  intro m
  induction m with
  | zero =>
    intro c fu x hc hf h
    obtain ⟨fu, rfl⟩ : ∃ g, fu = g + 1 := ⟨fu - 1, by omega⟩
    rw [show c = 9 by omega] at h ⊢
    refine ⟨x, h, ?_⟩
    rw [f_X9_rests_48, if_pos (by omega)]
  | succ m ih =>
    intro c fu x hc hf h
    obtain ⟨fu, rfl⟩ : ∃ g, fu = g + 1 := ⟨fu - 1, by omega⟩
    have cb := ms_ct_b (p := ms_pr G) c
    obtain ⟨y, y1, y2⟩ := ih (c + 1) fu _ (by omega) (by omega) (ms_fx_up h)
    refine ⟨y, y1, ?_⟩
    push_cast at y2
    rw [ms_ct] at y2
    rw [f_X9_rests_48, if_neg (by omega), cl_isRest hG (by omega), Option.bind_some]
    simp only [f_X9_rests_88, f_X9_rests_86]
    rw [sd_wid (z := (c : Int) + 1) (by omega) (by omega)]
    cases e : ms_pr G c
    · rw [ms_i0 (by simp), if_pos rfl]
      rw [e, if_neg (by simp), if_neg (by simp), Int.add_zero] at y2
      exact y2
    · rw [ms_i1 rfl, if_neg (by omega), sd_wid (by omega) (by omega)]
      rw [e, if_pos rfl] at y2
      by_cases z : ms_ct (ms_pr G) c = 0
      · rw [if_pos ⟨rfl, z⟩] at y2
        rw [if_pos (by omega)]
        exact y2
      · rw [if_neg (fun q => z q.2)] at y2
        rw [if_neg (by omega)]
        exact y2
theorem rf_rests_73 {M : sd_M} {G : Nat → Int} (hG : ∀ x, x < 18 → M 350 x = G x) (kk : Int → Int → Int → sd_M → Option (Int × sd_M)) (w : Int) : ∀ (n fu : Nat) (x : Int), n ≤ 9 → n < fu → ms_fx (ms_pr G) (fun i => (i : Int)) (-1) n 9 x → ∃ y, ms_fx (ms_pr G) (fun i => (i : Int)) (-1) 0 9 y ∧ f_X10_rests_73 kk fu w (ms_ct (ms_pr G) 9 - ms_ct (ms_pr G) n) x ((n : Int) - 1) M = kk w (ms_ct (ms_pr G) 9) y M := by
  intro n
  induction n with
  | zero =>
    intro fu x hn hf h
    obtain ⟨fu, rfl⟩ : ∃ g, fu = g + 1 := ⟨fu - 1, by omega⟩
    refine ⟨x, h, ?_⟩
    rw [f_X10_rests_73, if_pos (by omega), ms_ct, Int.sub_zero]
  | succ n ih =>
    intro fu x hn hf h
    obtain ⟨fu, rfl⟩ : ∃ g, fu = g + 1 := ⟨fu - 1, by omega⟩
    have cb := ms_ct_b (p := ms_pr G) n
    have cb9 := ms_ct_b (p := ms_pr G) 9
    obtain ⟨y, y1, y2⟩ := ih fu _ (by omega) (by omega) (ms_fx_dn (by omega) h)
    refine ⟨y, y1, ?_⟩
    rw [show ((n + 1 : Nat) : Int) - 1 = n by push_cast; omega, f_X10_rests_73, if_neg (by omega), rf_isRest hG (by omega), Option.bind_some]
    simp only [f_X10_rests_103]
    rw [sd_wid (z := (n : Int) + (-1)) (by omega) (by omega), show (n : Int) + (-1) = (n : Int) - 1 by omega]
    have ct1 : ms_ct (ms_pr G) (n + 1) = ms_ct (ms_pr G) n + if ms_pr G n = true then 1 else 0 := rfl
    cases e : ms_pr G n
    · rw [e, if_neg (by simp), Int.add_zero] at ct1
      rw [ms_i0 (by simp), if_pos rfl, ct1]
      rw [e, if_neg (by simp)] at y2
      exact y2
    · rw [e, if_pos rfl] at ct1
      rw [ms_i1 rfl, if_neg (by omega), ct1, sd_wid (by omega) (by omega), show ms_ct (ms_pr G) 9 - (ms_ct (ms_pr G) n + 1) + 1 = ms_ct (ms_pr G) 9 - ms_ct (ms_pr G) n by omega]
      rw [e, if_pos rfl] at y2
      exact y2
/-- the answer, out of how many and the first -/
def ms_ra (w n x : Int) : Int := if w = 0 then n else if x < 0 then -2 else if w = 1 then x / 3 else x % 3
theorem ms_fx_d {P : Nat → Bool} {x y : Int} (h : ms_fx P (fun i => (i : Int)) (-2) 0 9 x) (g : ms_fx P (fun i => (i : Int)) (-1) 0 9 y) : (x = -2 ∧ y = -1) ∨ (x = y ∧ 0 ≤ x ∧ x < 9) := by
  rcases h with ⟨i, i1, i2, i3, i4, i5⟩ | ⟨h1, h2⟩
  · have g2 : ms_fx P (fun i => (i : Int)) (-1) 0 9 x := Or.inl ⟨i, i1, i2, i3, i4, i5⟩
    right
    refine ⟨ms_fx_u g2 g, ?_⟩
    simp only [] at i5
    omega
  · have g2 : ms_fx P (fun i => (i : Int)) (-1) 0 9 (-1) := Or.inr ⟨h1, rfl⟩
    exact Or.inl ⟨h2, ms_fx_u g g2⟩
theorem sp_rests : sd_S3 sd_Iv f_X9_rests f_X10_rests := iv_q3 (fun M h p o w hp ho hw => by
  have ok := iv_ok h
  have l := ms_lines ok
  by_cases c1 : (0 ≤ p ∧ p < M 341 2) ∧ M 341 (71 + p.toNat) = 1
  · by_cases c2 : (0 ≤ o ∧ o < M 341 2) ∧ M 341 (71 + o.toNat) = 1
    · by_cases c3 : p = o
      · refine ⟨-1, ?_, fun N hN q => ?_⟩
        · unfold f_X9_rests
          rw [iv_isLine h, if_pos c1, Option.bind_some]
          simp only []
          rw [if_neg (by omega), iv_isLine h, if_pos c2, Option.bind_some]
          simp only []
          rw [if_neg (by omega), if_pos c3]
          exact ms_t_r ⟨rfl, cl_qf_rf⟩
        · have e : N 341 = M 341 := cl_qf_hi q (by omega)
          unfold f_X10_rests
          rw [rf_isLine (iv_ok hN), e, if_pos c1, Option.bind_some]
          simp only []
          rw [if_neg (by omega), rf_isLine (iv_ok hN), e, if_pos c2, Option.bind_some]
          simp only []
          rw [if_neg (by omega), if_pos c3]
          exact ms_t_r ⟨rfl, rf_q_rf⟩
      · by_cases c4 : 0 ≤ w ∧ w ≤ 2
        · obtain ⟨p, rfl⟩ : ∃ k : Nat, p = k := ⟨p.toNat, by omega⟩
          obtain ⟨o, rfl⟩ : ∃ k : Nat, o = k := ⟨o.toNat, by omega⟩
          obtain ⟨r1, N1, e1, q1, g1⟩ := cl_gains h c1.1.2 c2.1.2 (by omega) 3 0 4000 M (by omega) (by omega) cl_qf_rf (fun x hx => by omega)
          have e1' : f_X9_layGains (p : Int) (o : Int) M = some (r1, N1) := e1
          obtain ⟨x, x1, x2⟩ := cl_rests_48 g1 f_X9_rests_94 w 9 0 4000 (-2) (by omega) (by omega) ms_fx_0
          have x2' : f_X9_rests_48 f_X9_rests_94 4000 w 0 (-2) 0 N1 = _ := x2
          have cb := ms_ct_b (p := ms_pr (ms_gn (M 341) p o)) 9
          obtain ⟨y, y1, y2⟩ : ∃ y, ms_fx (ms_pr (ms_gn (M 341) p o)) (fun i => (i : Int)) (-1) 0 9 y ∧ ((x = -2 ∧ y = -1) ∨ (x = y ∧ 0 ≤ x ∧ x < 9)) := by
            rcases x1 with ⟨i, i1, i2, i3, i4, i5⟩ | ⟨h1, h2⟩
            · exact ⟨x, Or.inl ⟨i, i1, i2, i3, i4, i5⟩, ms_fx_d (Or.inl ⟨i, i1, i2, i3, i4, i5⟩) (Or.inl ⟨i, i1, i2, i3, i4, i5⟩)⟩
            · exact ⟨-1, Or.inr ⟨h1, rfl⟩, Or.inl ⟨h2, rfl⟩⟩
          refine ⟨ms_ra w (ms_ct (ms_pr (ms_gn (M 341) p o)) 9) y, ?_, fun N hN q => ?_⟩
          · unfold f_X9_rests
            rw [iv_isLine h, if_pos c1, Option.bind_some]
            simp only []
            rw [if_neg (by omega), iv_isLine h, if_pos c2, Option.bind_some]
            simp only []
            rw [if_neg (by omega), if_neg c3, if_neg (by omega), if_pos (by omega), e1', Option.bind_some]
            simp only []
            rw [x2', f_X9_rests_94]
            unfold ms_ra
            by_cases w0 : w = 0
            · rw [if_pos w0, if_pos w0]
              exact ms_t_r ⟨rfl, q1⟩
            · rw [if_neg w0, if_neg w0]
              rcases y2 with y2 | y2
              · rw [if_pos y2.1, if_pos (show y < 0 by omega)]
                exact ms_t_r ⟨rfl, q1⟩
              · rw [if_neg (show ¬ x = -2 by omega), if_neg (show ¬ y < 0 by omega), ms_tdiv y2.2.1, ms_tmod y2.2.1, sd_wid (by omega) (by omega), y2.1]
                by_cases w1 : w = 1
                · rw [if_pos w1, if_pos w1]
                  exact ms_t_r ⟨rfl, q1⟩
                · rw [if_neg w1, if_neg w1]
                  exact ms_t_r ⟨rfl, q1⟩
          · have e : N 341 = M 341 := cl_qf_hi q (by omega)
            unfold f_X10_rests
            rw [rf_isLine (iv_ok hN), e, if_pos c1, Option.bind_some]
            simp only []
            rw [if_neg (by omega), rf_isLine (iv_ok hN), e, if_pos c2, Option.bind_some]
            simp only []
            rw [if_neg (by omega), if_neg c3, rf_in1 c4, Option.bind_some]
            simp only []
            rw [if_neg (by omega)]
            refine ms_t_b rf_keeps (fun _ K hK => ?_)
            rw [e] at hK
            simp only []
            have eK : K 341 = M 341 := by rw [hK.1 341 (by omega), e]
            obtain ⟨L, l1, l2, l3, l4⟩ := rf_rests_42 (M0 := K) ok c1.1.2 c2.1.2 f_X10_rests_63 w 9 0 4000 K (by omega) (by omega) eK hK.2 rf_y_rf (fun x hx => by omega)
            have l4' : f_X10_rests_42 f_X10_rests_63 4000 (p : Int) (o : Int) w 0 K = _ := l4
            obtain ⟨z, z1, z2⟩ := rf_rests_73 l3 f_X10_rests_109 w 9 4000 (-1) (by omega) (by omega) ms_fx_0
            rw [Int.sub_self] at z2
            have z2' : f_X10_rests_73 f_X10_rests_109 4000 w 0 (-1) 8 L = _ := z2
            have zy : z = y := ms_fx_u z1 y1
            rw [l4', f_X10_rests_63, z2', f_X10_rests_109, zy]
            have fin : rf_q N L := rf_q_tr (rf_q_kp hK.1) (rf_q_y l2 (by rw [l1, eK]))
            unfold ms_ra
            by_cases w0 : w = 0
            · rw [if_pos w0, if_pos w0]
              exact ms_t_r ⟨rfl, fin⟩
            · rw [if_neg w0, if_neg w0]
              rcases y2 with y2 | y2
              · rw [if_neg (show ¬ 0 ≤ y by omega), if_pos (show y < 0 by omega)]
                exact ms_t_r ⟨rfl, fin⟩
              · rw [if_pos (show 0 ≤ y by omega), if_neg (show ¬ y < 0 by omega), ms_tdiv (show 0 ≤ y by omega), ms_tmod (show 0 ≤ y by omega), sd_wid (by omega) (by omega)]
                by_cases w1 : w = 1
                · rw [if_pos w1, if_pos w1]
                  exact ms_t_r ⟨rfl, fin⟩
                · rw [if_neg w1, if_neg w1]
                  exact ms_t_r ⟨rfl, fin⟩
        · refine ⟨-1, ?_, fun N hN q => ?_⟩
          · unfold f_X9_rests
            rw [iv_isLine h, if_pos c1, Option.bind_some]
            simp only []
            rw [if_neg (by omega), iv_isLine h, if_pos c2, Option.bind_some]
            simp only []
            rw [if_neg (by omega), if_neg c3]
            by_cases g : w < 0
            · rw [if_pos g]
              exact ms_t_r ⟨rfl, cl_qf_rf⟩
            · rw [if_neg g, if_neg (by omega)]
              exact ms_t_r ⟨rfl, cl_qf_rf⟩
          · have e : N 341 = M 341 := cl_qf_hi q (by omega)
            unfold f_X10_rests
            rw [rf_isLine (iv_ok hN), e, if_pos c1, Option.bind_some]
            simp only []
            rw [if_neg (by omega), rf_isLine (iv_ok hN), e, if_pos c2, Option.bind_some]
            simp only []
            rw [if_neg (by omega), if_neg c3, rf_in0 c4, Option.bind_some]
            exact ms_t_r ⟨rfl, rf_q_rf⟩
    · refine ⟨-1, ?_, fun N hN q => ?_⟩
      · unfold f_X9_rests
        rw [iv_isLine h, if_pos c1, Option.bind_some]
        simp only []
        rw [if_neg (by omega), iv_isLine h, if_neg c2, Option.bind_some]
        exact ms_t_r ⟨rfl, cl_qf_rf⟩
      · have e : N 341 = M 341 := cl_qf_hi q (by omega)
        unfold f_X10_rests
        rw [rf_isLine (iv_ok hN), e, if_pos c1, Option.bind_some]
        simp only []
        rw [if_neg (by omega), rf_isLine (iv_ok hN), e, if_neg c2, Option.bind_some]
        exact ms_t_r ⟨rfl, rf_q_rf⟩
  · refine ⟨-1, ?_, fun N hN q => ?_⟩
    · unfold f_X9_rests
      rw [iv_isLine h, if_neg c1, Option.bind_some]
      exact ms_t_r ⟨rfl, cl_qf_rf⟩
    · have e : N 341 = M 341 := cl_qf_hi q (by omega)
      unfold f_X10_rests
      rw [rf_isLine (iv_ok hN), e, if_neg c1, Option.bind_some]
      exact ms_t_r ⟨rfl, rf_q_rf⟩)
