/-! days that are asked: ahead, full, taken -/
def cl_ra (z n : Int) : Option Nat := if z < 0 then none else if n ≤ z then none else if 6 ≤ z then none else some (16 + 7 * z.toNat)
theorem cl_ruleAt (z : Int) (M : sd_M) : f_X9_ruleAt z M = some (cl_ra z (M 0 4), M) := by
  unfold f_X9_ruleAt cl_ra
  by_cases a : z < 0
  · rw [if_pos a, if_pos a]
  · rw [if_neg a, if_neg a]
    by_cases b : M 0 4 ≤ z
    · rw [if_pos b, if_pos b]
    · rw [if_neg b, if_neg b]
      by_cases c : 6 ≤ z
      · rw [if_pos c, if_pos c]
      · rw [if_neg c, if_neg c, if_pos (by omega)]
theorem cl_rif (M : sd_M) : f_X9_ruleInForce M = some (cl_ra (M 58 3) (M 0 4), M) := by
  unfold f_X9_ruleInForce
  rw [cl_ruleAt]
  rfl
theorem iv_W2 {M : sd_M} (h : sd_Iv M) {z : Int} (hz : -1 ≤ z ∧ z < M 331 2) : ∃ W, cl_W M (cl_ra z (M 0 4)) W ∧ rf_W M z W := by
  obtain ⟨rl, W, h1, h2, h3⟩ := iv_W h hz
  rw [cl_ruleAt] at h1
  have : cl_ra z (M 0 4) = rl := congrArg Prod.fst (Option.some.inj h1)
  rw [this]
  exact ⟨W, h2, h3⟩
theorem iv_F2 {M : sd_M} (h : sd_Iv M) : ∃ W, cl_W M (cl_ra (M 58 3) (M 0 4)) W ∧ rf_W M (M 331 21) W := by
  rw [(iv_zx h).1]
  exact iv_W2 h h.2.2.2.2.2.2.1
theorem cl_W_q {M N : sd_M} {rl : Option Nat} {W : (Nat → Int) → Int → Int} (h : cl_W M rl W) (q : cl_qf M N) : cl_W N rl W := cl_W_c h (fun a ha hr => q a (by omega) hr)
/-- a day in the trial book -/
theorem cl_step {M0 M : sd_M} {T : Nat → Int} {W : (Nat → Int) → Int → Int} {rl : Option Nat} (h : sd_Iv M0) (q : cl_qf M0 M) (hT : ms_ok T) (hb : cl_bk M 318 T) (ht : ∀ i, (i = 2 ∨ i = 3 ∨ (22 ≤ i ∧ i < 58)) → T i = M0 341 i) (hd : 0 ≤ T 58 ∧ T 58 < 100000) (hW : cl_W M0 rl W) : ms_T (f_X1_pass 318 rl M) (fun v N => v = ms_ch T W ∧ cl_bk N 318 (ms_ps W T) ∧ cl_qf M0 N) := by
  have tn : cl_tn M T := cl_tn_c (iv_tn h) (iv_ok h).1.2.2.1.2 (fun a x y => cl_qf_mi q (by omega)) ht
  exact ms_t_w (cl_pass (by omega) hT hb tn hd (cl_W_q hW q)) (fun v N hN => ⟨hN.1, hN.2.1, cl_qf_tr q (cl_qf_fd hN.2.2)⟩)
theorem rf_step {M0 M : sd_M} {T : Nat → Int} {W : (Nat → Int) → Int → Int} (e : M 341 = T) (q : rf_d M0 M) (hT : ms_ok T) (hd : 0 ≤ T 58 ∧ T 58 < 100000) (hW : rf_W M0 (M0 331 21) W) : ms_T (f_X10_passes M) (fun v N => v = ms_ch T W ∧ N 341 = ms_ps W T ∧ rf_d M0 N) := by
  subst e
  have w2 : rf_W M (M 331 21) W := by
    rw [q.2 21 (by omega)]
    exact rf_W_c hW (q.1 333 (by omega) (by omega) (by omega) (by omega) (by omega) (by omega) (by omega)) (q.1 335 (by omega) (by omega) (by omega) (by omega) (by omega) (by omega) (by omega)) (q.1 336 (by omega) (by omega) (by omega) (by omega) (by omega) (by omega) (by omega))
  exact ms_t_w (rf_passes hT hd w2) (fun v N hN => ⟨hN.1, hN.2.1, rf_d_tr q hN.2.2⟩)
def ms_pn (W : (Nat → Int) → Int → Int) (S : Nat → Int) : Nat → Nat → Int
  | 0 => S
  | n + 1 => ms_ps W (ms_pn W S n)
theorem ms_pn_p {W : (Nat → Int) → Int → Int} {S : Nat → Int} (h : ms_ok S) : ∀ n, ms_ok (ms_pn W S n) ∧ ms_pn W S n 58 = S 58 + n ∧ ms_ou S (ms_pn W S n)
  | 0 => ⟨h, by simp [ms_pn], ms_ou_rf⟩
  | n + 1 => by
    have a := ms_pn_p (W := W) h n
    refine ⟨ms_ps_ok a.1, ?_, ms_ou_tr a.2.2 (ms_ou_ps a.1)⟩
    rw [ms_pn, ms_ps_58 a.1, a.2.1]
    push_cast
    omega
theorem ms_ou_t {S T : Nat → Int} (h : ms_ou S T) : ∀ i, (i = 2 ∨ i = 3 ∨ (22 ≤ i ∧ i < 58)) → T i = S i := fun i hi => h i (by omega)
def ms_aw (T : Nat → Int) (w : Int) : Int := if w = 0 then ms_pl T else if w = 1 then T 60 else if w = 2 then ms_sh T else T 61
theorem cl_ahead_l {M0 : sd_M} (h : sd_Iv M0) {W : (Nat → Int) → Int → Int} (hW : cl_W M0 (cl_ra (M0 58 3) (M0 0 4)) W) {n : Nat} (hn : n ≤ 60) (w : Int) : ∀ (m k fu : Nat) (M : sd_M), k + m = n → m < fu → cl_qf M0 M → cl_bk M 318 (ms_pn W (M0 341) k) → ms_T (f_X9_ahead_50 f_X9_ahead_84 fu (n : Int) w (k : Int) M) (fun v N => v = ms_aw (ms_pn W (M0 341) n) w ∧ cl_qf M0 N) := by
  have ok := iv_ok h
  have sl := iv_sl h
  intro m
  induction m with
  | zero =>
    intro k fu M hk hf q b
    obtain ⟨fu, rfl⟩ : ∃ g, fu = g + 1 := ⟨fu - 1, by omega⟩
    rw [f_X9_ahead_50, if_pos (by omega)]
    rw [show k = n by omega] at b
    have p := ms_pn_p (W := W) ok n
    unfold f_X9_ahead_84 ms_aw
    by_cases c0 : w = 0
    · rw [if_pos c0, if_pos c0]
      exact ms_t_r ⟨b.2.1, q⟩
    · rw [if_neg c0, if_neg c0]
      by_cases c1 : w = 1
      · rw [if_pos c1, if_pos c1]
        exact ms_t_r ⟨b.1.1.2.2.1, q⟩
      · rw [if_neg c1, if_neg c1]
        by_cases c2 : w = 2
        · rw [if_pos c2, if_pos c2, cl_lack p.1 b.1.1.1 b.2.1]
          exact ms_t_r ⟨rfl, q⟩
        · rw [if_neg c2, if_neg c2]
          exact ms_t_r ⟨b.1.1.2.2.2, q⟩
  | succ m ih =>
    intro k fu M hk hf q b
    obtain ⟨fu, rfl⟩ : ∃ g, fu = g + 1 := ⟨fu - 1, by omega⟩
    have p := ms_pn_p (W := W) ok k
    rw [f_X9_ahead_50, if_neg (by omega), cl_rif, Option.bind_some]
    simp only []
    rw [cl_qf_mi q (show 58 ≤ 58 ∧ 58 < 316 by omega), q 0 (by omega) (fun r _ => by omega), sd_wid (by omega) (by omega)]
    refine ms_t_b (cl_step h q p.1 b (ms_ou_t p.2.2) (by rw [p.2.1]; have := sl.2.1; omega) hW) (fun v N hN => ?_)
    have up := ih (k + 1) fu N (by omega) (by omega) hN.2.2 hN.2.1
    push_cast at up
    exact up
theorem rf_passesAll_l {M0 : sd_M} {S : Nat → Int} (h : ms_ok S) (hd : 0 ≤ S 58 ∧ S 58 ≤ 999) {W : (Nat → Int) → Int → Int} (hW : rf_W M0 (M0 331 21) W) {n : Nat} (hn : n ≤ 60) : ∀ (m k fu : Nat) (M : sd_M), k + m = n → m < fu → M 341 = ms_pn W S k → rf_d M0 M → ms_T (f_X10_passesAll_2 fu (n : Int) (k : Int) M) (fun _ N => N 341 = ms_pn W S n ∧ rf_d M0 N) := by
  intro m
  induction m with
  | zero =>
    intro k fu M hk hf e q
    obtain ⟨fu, rfl⟩ : ∃ g, fu = g + 1 := ⟨fu - 1, by omega⟩
    rw [f_X10_passesAll_2, if_pos (by omega)]
    rw [show k = n by omega] at e
    exact ms_t_r ⟨e, q⟩
  | succ m ih =>
    intro k fu M hk hf e q
    obtain ⟨fu, rfl⟩ : ∃ g, fu = g + 1 := ⟨fu - 1, by omega⟩
    have p := ms_pn_p (W := W) h k
    rw [f_X10_passesAll_2, if_neg (by omega), sd_wid (by omega) (by omega)]
    refine ms_t_b (rf_step e q p.1 (by rw [p.2.1]; omega) hW) (fun v N hN => ?_)
    have up := ih (k + 1) fu N (by omega) (by omega) hN.2.1 hN.2.2
    push_cast at up
    exact up
/-- kept, so many things done, laid back -/
theorem rf_lb {M0 M : sd_M} {S : Nat → Int} (kp : rf_kp M0 S) (e : M0 341 = S) (q : rf_d M0 M) (o : ms_ou S (M 341)) : ms_T (f_X10_laysBack M) (fun _ N => N 341 = M0 341 ∧ rf_d M0 N) := ms_t_w (rf_laysBack (rf_kp_d kp q) o) (fun _ N hN => ⟨by rw [hN.1, e], rf_d_tr q (rf_d_41 hN.2)⟩)
theorem rf_W_kp {M N : sd_M} {z : Int} {W : (Nat → Int) → Int → Int} (h : rf_W M z W) (e : ∀ a, a ≠ 346 → N a = M a) : rf_W N z W := rf_W_c h (e 333 (by omega)) (e 335 (by omega)) (e 336 (by omega))
theorem rf_W_q {M N : sd_M} {z : Int} {W : (Nat → Int) → Int → Int} (h : rf_W M z W) (q : cl_qf M N) : rf_W N z W := rf_W_c h (cl_qf_hi q (by omega)) (cl_qf_hi q (by omega)) (cl_qf_hi q (by omega))
theorem sp_ahead : sd_S2 sd_Iv f_X9_ahead f_X10_ahead := iv_q2 (fun M h n w hn hw => by
  have ok := iv_ok h
  have sl := iv_sl h
  have sp := iv_sp h
  obtain ⟨W, w1, w2⟩ := iv_F2 h
  by_cases c : M 341 0 = 1
  · by_cases d : 0 ≤ n ∧ n ≤ 60
    · by_cases g : 0 ≤ w ∧ w ≤ 3
      · obtain ⟨n, rfl⟩ : ∃ k : Nat, n = k := ⟨n.toNat, by omega⟩
        refine ⟨ms_aw (ms_pn W (M 341) n) w, ?_, fun N hN q => ?_⟩
        · unfold f_X9_ahead
          rw [if_neg (by omega), if_neg (by omega), if_neg (by omega), if_neg (by omega), if_pos (by omega)]
          obtain ⟨N1, e1, b1, f1⟩ := cl_copy_k (M := M) (b := 318) (o := 66) (by omega) ok (iv_bk h)
          rw [e1, Option.bind_some]
          exact cl_ahead_l h w1 (by omega) w n 0 4000 N1 (by omega) (by omega) (cl_qf_fr f1) b1
        · have e : N 341 = M 341 := cl_qf_hi q (by omega)
          have e31 : N 331 = M 331 := cl_qf_hi q (by omega)
          unfold f_X10_ahead
          rw [rf_sl1 (by rw [e]; exact c), Option.bind_some]
          simp only []
          rw [if_neg (by omega), rf_in1 d, Option.bind_some]
          simp only []
          rw [if_neg (by omega), rf_in1 g, Option.bind_some]
          simp only []
          rw [if_neg (by omega)]
          refine ms_t_b rf_keeps (fun _ K hK => ?_)
          rw [e] at hK
          simp only []
          have eK : K 341 = M 341 := by rw [hK.1 341 (by omega), e]
          have hWK : rf_W K (K 331 21) W := by
            rw [hK.1 331 (by omega), e31]
            exact rf_W_kp (rf_W_q w2 q) hK.1
          have p := ms_pn_p (W := W) ok n
          refine ms_t_b (rf_passesAll_l ok sl.2.1 hWK (n := n) (by omega) n 0 4000 K (by omega) (by omega) eK rf_d_rf) (fun _ L hL => ?_)
          simp only []
          have oL : ms_ok (L 341) := by
            rw [hL.1]
            exact p.1
          have fin : ∀ v : Int, v = ms_aw (ms_pn W (M 341) n) w → ms_T (f_X10_ahead_87 v L) (fun v K => v = ms_aw (ms_pn W (M 341) n) w ∧ rf_q N K) := fun v hv => by
            unfold f_X10_ahead_87
            exact ms_t_b (rf_lb hK.2 eK hL.2 (by rw [hL.1]; exact p.2.2)) (fun _ Z hZ => ms_t_r ⟨hv, rf_q_tr (rf_q_kp hK.1) (rf_q_d hZ.2 hZ.1)⟩)
          by_cases c0 : w = 0
          · rw [if_pos c0, rf_placed oL, Option.bind_some]
            exact fin _ (by rw [hL.1]; simp [ms_aw, c0])
          · rw [if_neg c0]
            by_cases c1 : w = 1
            · rw [if_pos c1]
              exact fin _ (by rw [hL.1]; simp [ms_aw, c1])
            · rw [if_neg c1]
              by_cases c2 : w = 2
              · rw [if_pos c2, rf_shortNow oL, Option.bind_some]
                exact fin _ (by rw [hL.1]; simp [ms_aw, c2])
              · rw [if_neg c2]
                exact fin _ (by rw [hL.1]; simp [ms_aw, c0, c1, c2])
      · refine ⟨-1, ?_, fun N hN q => ?_⟩
        · unfold f_X9_ahead
          rw [if_neg (by omega), if_neg (by omega), if_neg (by omega)]
          by_cases g2 : w < 0
          · rw [if_pos g2]
            exact ms_t_r ⟨rfl, cl_qf_rf⟩
          · rw [if_neg g2, if_neg (by omega)]
            exact ms_t_r ⟨rfl, cl_qf_rf⟩
        · unfold f_X10_ahead
          rw [rf_sl1 (by rw [cl_qf_hi q (show 331 ≤ 341 by omega)]; exact c), Option.bind_some]
          simp only []
          rw [if_neg (by omega), rf_in1 d, Option.bind_some]
          simp only []
          rw [if_neg (by omega), rf_in0 g, Option.bind_some]
          exact ms_t_r ⟨rfl, rf_q_rf⟩
    · refine ⟨-1, ?_, fun N hN q => ?_⟩
      · unfold f_X9_ahead
        rw [if_neg (by omega)]
        by_cases g2 : n < 0
        · rw [if_pos g2]
          exact ms_t_r ⟨rfl, cl_qf_rf⟩
        · rw [if_neg g2, if_pos (by omega)]
          exact ms_t_r ⟨rfl, cl_qf_rf⟩
      · unfold f_X10_ahead
        rw [rf_sl1 (by rw [cl_qf_hi q (show 331 ≤ 341 by omega)]; exact c), Option.bind_some]
        simp only []
        rw [if_neg (by omega), rf_in0 d, Option.bind_some]
        exact ms_t_r ⟨rfl, rf_q_rf⟩
  · refine ⟨-1, ?_, fun N hN q => ?_⟩
    · unfold f_X9_ahead
      rw [if_pos (by omega)]
      exact ms_t_r ⟨rfl, cl_qf_rf⟩
    · unfold f_X10_ahead
      rw [rf_sl0 (by rw [cl_qf_hi q (show 331 ≤ 341 by omega)]; exact c), Option.bind_some]
      exact ms_t_r ⟨rfl, rf_q_rf⟩)
/-- the first day of so many on which something is so -/
def ms_fd (W : (Nat → Int) → Int → Int) (P : (Nat → Int) → Bool) : Nat → (Nat → Int) → Int
  | 0, _ => -2
  | m + 1, T => if P T = true then T 58 else ms_fd W P m (ms_ps W T)
theorem cl_full_l {M0 : sd_M} (h : sd_Iv M0) {W : (Nat → Int) → Int → Int} (hW : cl_W M0 (cl_ra (M0 58 3) (M0 0 4)) W) : ∀ (m k fu : Nat) (M : sd_M), k + m = 60 → m < fu → cl_qf M0 M → cl_bk M 318 (ms_pn W (M0 341) k) → ms_T (f_X9_full_31 fu (k : Int) M) (fun v N => v = ms_fd W (fun T => decide (ms_sh (ms_ps W T) = 0)) m (ms_pn W (M0 341) k) ∧ cl_qf M0 N) := by
  have ok := iv_ok h
  have sl := iv_sl h
  intro m
  induction m with
  | zero =>
    intro k fu M hk hf q b
    obtain ⟨fu, rfl⟩ : ∃ g, fu = g + 1 := ⟨fu - 1, by omega⟩
    rw [f_X9_full_31, if_pos (by omega)]
    exact ms_t_r ⟨rfl, q⟩
  | succ m ih =>
    intro k fu M hk hf q b
    obtain ⟨fu, rfl⟩ : ∃ g, fu = g + 1 := ⟨fu - 1, by omega⟩
    have p := ms_pn_p (W := W) ok k
    have p2 := ms_pn_p (W := W) ok (k + 1)
    rw [f_X9_full_31, if_neg (by omega), cl_rif, Option.bind_some]
    simp only []
    rw [cl_qf_mi q (show 58 ≤ 58 ∧ 58 < 316 by omega), q 0 (by omega) (fun r _ => by omega), sd_wid (by omega) (by omega), ms_fd]
    refine ms_t_b (cl_step h q p.1 b (ms_ou_t p.2.2) (by rw [p.2.1]; have := sl.2.1; omega) hW) (fun v N hN => ?_)
    simp only []
    rw [cl_lack p2.1 hN.2.1.1.1.1 hN.2.1.2.1, Option.bind_some]
    simp only [decide_eq_true_eq]
    have e58 : M 318 1 = ms_pn W (M0 341) k 58 := b.1.1.2.1
    by_cases c : ms_sh (ms_ps W (ms_pn W (M0 341) k)) = 0
    · rw [if_pos c, if_pos (show ms_sh (ms_pn W (M0 341) (k + 1)) = 0 from c)]
      exact ms_t_r ⟨e58, hN.2.2⟩
    · rw [if_neg c, if_neg (show ¬ ms_sh (ms_pn W (M0 341) (k + 1)) = 0 from c)]
      have up := ih (k + 1) fu N (by omega) (by omega) hN.2.2 hN.2.1
      push_cast at up
      exact up
theorem rf_full_l {M0 : sd_M} {S : Nat → Int} (h : ms_ok S) (e0 : M0 341 = S) (kp : rf_kp M0 S) (hd : 0 ≤ S 58 ∧ S 58 ≤ 999) {W : (Nat → Int) → Int → Int} (hW : rf_W M0 (M0 331 21) W) : ∀ (m k fu : Nat) (M : sd_M), k + m = 60 → m + 1 < fu → M 341 = ms_pn W S k → rf_d M0 M → ms_T (f_X10_full_18 f_X10_full_56 fu (-2) (k : Int) M) (fun v N => v = ms_fd W (fun T => decide (ms_sh (ms_ps W T) = 0)) m (ms_pn W S k) ∧ N 341 = M0 341 ∧ rf_d M0 N) := by
  have fin : ∀ (v : Int) (M : sd_M) (k : Nat), M 341 = ms_pn W S k → rf_d M0 M → ms_T (f_X10_full_56 v M) (fun v2 N => v2 = v ∧ N 341 = M0 341 ∧ rf_d M0 N) := fun v M k e q => by
    unfold f_X10_full_56
    exact ms_t_b (rf_lb kp e0 q (by rw [e]; exact (ms_pn_p h k).2.2)) (fun _ Z hZ => ms_t_r ⟨rfl, hZ⟩)
  intro m
  induction m with
  | zero =>
    intro k fu M hk hf e q
    obtain ⟨fu, rfl⟩ : ∃ g, fu = g + 1 := ⟨fu - 1, by omega⟩
    rw [f_X10_full_18, if_pos (by omega)]
    exact fin (-2) M k e q
  | succ m ih =>
    intro k fu M hk hf e q
    obtain ⟨fu, rfl⟩ : ∃ g, fu = g + 1 + 1 := ⟨fu - 2, by omega⟩
    have p := ms_pn_p (W := W) h k
    have p2 := ms_pn_p (W := W) h (k + 1)
    rw [f_X10_full_18, if_neg (by omega), if_neg (by omega), ms_fd]
    refine ms_t_b (rf_step e q p.1 (by rw [p.2.1]; omega) hW) (fun v N hN => ?_)
    simp only []
    have eN : N 341 = ms_pn W S (k + 1) := hN.2.1
    rw [rf_shortNow (by rw [eN]; exact p2.1), Option.bind_some]
    simp only [f_X10_full_50, sd_wid (z := (k : Int) + 1) (by omega) (by omega), decide_eq_true_eq]
    rw [eN, p2.2.1, sd_wid (by push_cast; omega) (by push_cast; omega)]
    by_cases c : ms_sh (ms_ps W (ms_pn W S k)) = 0
    · rw [if_pos c, if_pos (show ms_sh (ms_pn W S (k + 1)) = 0 from c), p.2.1, f_X10_full_18]
      have z := fin (S 58 + (k + 1 : Nat) - 1) N (k + 1) eN hN.2.2
      rw [show S 58 + ((k + 1 : Nat) : Int) - 1 = S 58 + k by push_cast; omega] at z ⊢
      by_cases g : 60 ≤ (k : Int) + 1
      · rw [if_pos g]
        exact z
      · rw [if_neg g, if_pos (by omega)]
        exact z
    · rw [if_neg c, if_neg (show ¬ ms_sh (ms_pn W S (k + 1)) = 0 from c)]
      have up := ih (k + 1) (fu + 1) N (by omega) (by omega) eN hN.2.2
      push_cast at up
      exact up
theorem sp_full : sd_S0 sd_Iv f_X9_full f_X10_full := iv_q0 (fun M h => by
  have ok := iv_ok h
  have sl := iv_sl h
  have sp := iv_sp h
  obtain ⟨W, w1, w2⟩ := iv_F2 h
  by_cases c : M 341 0 = 1
  · refine ⟨ms_fd W (fun T => decide (ms_sh (ms_ps W T) = 0)) 60 (M 341), ?_, fun N hN q => ?_⟩
    · unfold f_X9_full
      obtain ⟨N1, e1, b1, f1⟩ := cl_copy_k (M := M) (b := 318) (o := 66) (by omega) ok (iv_bk h)
      rw [if_neg (by omega), e1, Option.bind_some]
      exact cl_full_l h w1 60 0 4000 N1 (by omega) (by omega) (cl_qf_fr f1) b1
    · have e : N 341 = M 341 := cl_qf_hi q (by omega)
      have e31 : N 331 = M 331 := cl_qf_hi q (by omega)
      unfold f_X10_full
      rw [rf_sl1 (by rw [e]; exact c), Option.bind_some]
      simp only []
      rw [if_neg (by omega)]
      refine ms_t_b rf_keeps (fun _ K hK => ?_)
      rw [e] at hK
      simp only []
      have eK : K 341 = M 341 := by rw [hK.1 341 (by omega), e]
      have hWK : rf_W K (K 331 21) W := by
        rw [hK.1 331 (by omega), e31]
        exact rf_W_kp (rf_W_q w2 q) hK.1
      exact ms_t_w (rf_full_l ok eK hK.2 sl.2.1 hWK 60 0 4000 K (by omega) (by omega) eK rf_d_rf) (fun v L hL => ⟨hL.1, rf_q_tr (rf_q_kp hK.1) (rf_q_d hL.2.2 hL.2.1)⟩)
  · refine ⟨-1, ?_, fun N hN q => ?_⟩
    · unfold f_X9_full
      rw [if_pos (by omega)]
      exact ms_t_r ⟨rfl, cl_qf_rf⟩
    · unfold f_X10_full
      rw [rf_sl0 (by rw [cl_qf_hi q (show 331 ≤ 341 by omega)]; exact c), Option.bind_some]
      exact ms_t_r ⟨rfl, rf_q_rf⟩)
theorem cl_taken_l {M0 : sd_M} (h : sd_Iv M0) {W : (Nat → Int) → Int → Int} (hW : cl_W M0 (cl_ra (M0 58 3) (M0 0 4)) W) (f : Int) : ∀ (m k fu : Nat) (M : sd_M), k + m = 60 → m < fu → cl_qf M0 M → cl_bk M 318 (ms_pn W (M0 341) k) → ms_T (f_X9_taken_41 fu f (k : Int) M) (fun v N => v = ms_fd W (fun T => decide (ms_ch T W = f)) m (ms_pn W (M0 341) k) ∧ cl_qf M0 N) := by
  have ok := iv_ok h
  have sl := iv_sl h
  intro m
  induction m with
  | zero =>
    intro k fu M hk hf q b
    obtain ⟨fu, rfl⟩ : ∃ g, fu = g + 1 := ⟨fu - 1, by omega⟩
    rw [f_X9_taken_41, if_pos (by omega)]
    exact ms_t_r ⟨rfl, q⟩
  | succ m ih =>
    intro k fu M hk hf q b
    obtain ⟨fu, rfl⟩ : ∃ g, fu = g + 1 := ⟨fu - 1, by omega⟩
    have p := ms_pn_p (W := W) ok k
    rw [f_X9_taken_41, if_neg (by omega), cl_rif, Option.bind_some]
    simp only []
    rw [cl_qf_mi q (show 58 ≤ 58 ∧ 58 < 316 by omega), q 0 (by omega) (fun r _ => by omega), sd_wid (by omega) (by omega), ms_fd]
    refine ms_t_b (cl_step h q p.1 b (ms_ou_t p.2.2) (by rw [p.2.1]; have := sl.2.1; omega) hW) (fun v N hN => ?_)
    simp only [decide_eq_true_eq]
    rw [hN.1]
    have e58 : M 318 1 = ms_pn W (M0 341) k 58 := b.1.1.2.1
    by_cases c : ms_ch (ms_pn W (M0 341) k) W = f
    · rw [if_pos c, if_pos c]
      exact ms_t_r ⟨e58, hN.2.2⟩
    · rw [if_neg c, if_neg c]
      have up := ih (k + 1) fu N (by omega) (by omega) hN.2.2 hN.2.1
      push_cast at up
      exact up
theorem rf_taken_l {M0 : sd_M} {S : Nat → Int} (h : ms_ok S) (e0 : M0 341 = S) (kp : rf_kp M0 S) (hd : 0 ≤ S 58 ∧ S 58 ≤ 999) {W : (Nat → Int) → Int → Int} (hW : rf_W M0 (M0 331 21) W) (f : Int) : ∀ (m k fu : Nat) (M : sd_M), k + m = 60 → m + 1 < fu → M 341 = ms_pn W S k → rf_d M0 M → ms_T (f_X10_taken_19 f_X10_taken_53 fu f (-2) (k : Int) M) (fun v N => v = ms_fd W (fun T => decide (ms_ch T W = f)) m (ms_pn W S k) ∧ N 341 = M0 341 ∧ rf_d M0 N) := by
  have fin : ∀ (v : Int) (M : sd_M) (k : Nat), M 341 = ms_pn W S k → rf_d M0 M → ms_T (f_X10_taken_53 v M) (fun v2 N => v2 = v ∧ N 341 = M0 341 ∧ rf_d M0 N) := fun v M k e q => by
    unfold f_X10_taken_53
    exact ms_t_b (rf_lb kp e0 q (by rw [e]; exact (ms_pn_p h k).2.2)) (fun _ Z hZ => ms_t_r ⟨rfl, hZ⟩)
  intro m
  induction m with
  | zero =>
    intro k fu M hk hf e q
    obtain ⟨fu, rfl⟩ : ∃ g, fu = g + 1 := ⟨fu - 1, by omega⟩
    rw [f_X10_taken_19, if_pos (by omega)]
    exact fin (-2) M k e q
  | succ m ih =>
    intro k fu M hk hf e q
    obtain ⟨fu, rfl⟩ : ∃ g, fu = g + 1 + 1 := ⟨fu - 2, by omega⟩
    have p := ms_pn_p (W := W) h k
    have p2 := ms_pn_p (W := W) h (k + 1)
    rw [f_X10_taken_19, if_neg (by omega), if_neg (by omega), ms_fd]
    refine ms_t_b (rf_step e q p.1 (by rw [p.2.1]; omega) hW) (fun v N hN => ?_)
    simp only [f_X10_taken_47, sd_wid (z := (k : Int) + 1) (by omega) (by omega), decide_eq_true_eq]
    have eN : N 341 = ms_pn W S (k + 1) := hN.2.1
    rw [eN, p2.2.1, sd_wid (by push_cast; omega) (by push_cast; omega), hN.1]
    by_cases c : ms_ch (ms_pn W S k) W = f
    · rw [if_pos c, if_pos c, p.2.1, f_X10_taken_19]
      have z := fin (S 58 + (k + 1 : Nat) - 1) N (k + 1) eN hN.2.2
      rw [show S 58 + ((k + 1 : Nat) : Int) - 1 = S 58 + k by push_cast; omega] at z ⊢
      by_cases g : 60 ≤ (k : Int) + 1
      · rw [if_pos g]
        exact z
      · rw [if_neg g, if_pos (by omega)]
        exact z
    · rw [if_neg c, if_neg c]
      have up := ih (k + 1) (fu + 1) N (by omega) (by omega) eN hN.2.2
      push_cast at up
      exact up
theorem sp_taken : sd_S1 sd_Iv f_X9_taken f_X10_taken := iv_q1 (fun M h f hf => by
  have ok := iv_ok h
  have l := ms_lines ok
  have sl := iv_sl h
  obtain ⟨W, w1, w2⟩ := iv_F2 h
  by_cases c : (0 ≤ f ∧ f < M 341 2) ∧ M 341 (71 + f.toNat) = 0
  · refine ⟨ms_fd W (fun T => decide (ms_ch T W = f)) 60 (M 341), ?_, fun N hN q => ?_⟩
    · unfold f_X9_taken
      obtain ⟨N1, e1, b1, f1⟩ := cl_copy_k (M := M) (b := 318) (o := 66) (by omega) ok (iv_bk h)
      have e9 : M 69 f.toNat = M 341 (71 + f.toNat) := (iv_bk h).1.2.2.1 f.toNat (by omega)
      rw [iv_isOffer h, if_pos c.1, Option.bind_some]
      simp only []
      rw [if_neg (by omega), if_pos (by omega), e9, if_pos c.2, e1, Option.bind_some]
      exact cl_taken_l h w1 f 60 0 4000 N1 (by omega) (by omega) (cl_qf_fr f1) b1
    · have e : N 341 = M 341 := cl_qf_hi q (by omega)
      have e31 : N 331 = M 331 := cl_qf_hi q (by omega)
      unfold f_X10_taken
      rw [rf_isWaiting (iv_ok hN), e, if_pos c, Option.bind_some]
      simp only []
      rw [if_neg (by omega)]
      refine ms_t_b rf_keeps (fun _ K hK => ?_)
      rw [e] at hK
      simp only []
      have eK : K 341 = M 341 := by rw [hK.1 341 (by omega), e]
      have hWK : rf_W K (K 331 21) W := by
        rw [hK.1 331 (by omega), e31]
        exact rf_W_kp (rf_W_q w2 q) hK.1
      exact ms_t_w (rf_taken_l ok eK hK.2 sl.2.1 hWK f 60 0 4000 K (by omega) (by omega) eK rf_d_rf) (fun v L hL => ⟨hL.1, rf_q_tr (rf_q_kp hK.1) (rf_q_d hL.2.2 hL.2.1)⟩)
  · refine ⟨-1, ?_, fun N hN q => ?_⟩
    · unfold f_X9_taken
      rw [iv_isOffer h, Option.bind_some]
      simp only []
      by_cases d : 0 ≤ f ∧ f < M 341 2
      · have e9 : M 69 f.toNat = M 341 (71 + f.toNat) := (iv_bk h).1.2.2.1 f.toNat (by omega)
        rw [if_pos d, if_neg (by omega), if_pos (by omega), e9, if_neg (fun x => c ⟨d, x⟩)]
        exact ms_t_r ⟨rfl, cl_qf_rf⟩
      · rw [if_neg d, if_pos rfl]
        exact ms_t_r ⟨rfl, cl_qf_rf⟩
    · unfold f_X10_taken
      rw [rf_isWaiting (iv_ok hN), cl_qf_hi q (show 331 ≤ 341 by omega), if_neg c, Option.bind_some]
      exact ms_t_r ⟨rfl, rf_q_rf⟩)
