/-! what would be: would, least, worst, firm -/
def ms_wd (S : Nat → Int) (f n : Int) : Int := ms_sg (ms_st (ms_u S (62 + f.toNat) n)) f
theorem cl_wd {M : sd_M} {S : Nat → Int} (h : ms_ok S) (hb : cl_bk M 66 S) (ht : cl_tn M S) {f n : Int} (hf : 0 ≤ f ∧ f < S 2) (hn : 1 ≤ n ∧ n ≤ 999) : ms_T (f_X9_signedIfWritten f n M) (fun v N => v = ms_wd S f n ∧ cl_fr M N 318) := by
  have l := ms_lines h
  obtain ⟨g, rfl⟩ : ∃ g : Nat, f = g := ⟨f.toNat, by omega⟩
  unfold f_X9_signedIfWritten
  obtain ⟨N1, e1, b1, f1⟩ := cl_copy_k (M := M) (b := 318) (o := 66) (by omega) h hb
  rw [e1, Option.bind_some]
  simp only []
  refine ms_t_b (cl_rewrite h b1 hn hf) (fun _ N2 h2 => ?_)
  simp only []
  have ok2 := ms_ok_62 h hn (f := (g : Int).toNat) (by omega)
  have t2 : cl_tn N2 (ms_u S (62 + (g : Int).toNat) n) := cl_tn_c ht h.1.2.2.1.2 (fun a x y => by rw [h2.2 a (by omega), f1 a (by omega)]) (fun i hi => ms_u_ne (by omega))
  refine ms_t_b (cl_settle (by omega) ok2 h2.1 t2) (fun _ N3 h3 => ?_)
  simp only []
  rw [if_pos (by omega), Int.toNat_natCast]
  exact ms_t_r ⟨h3.2.1.2.2 g (by omega), cl_fr_tr (cl_fr_tr f1 h2.2) h3.2.2⟩
theorem rf_wd {M : sd_M} {S : Nat → Int} (e : M 341 = S) (h : ms_ok S) (hk : rf_kp M S) {f n : Int} (hf : 0 ≤ f ∧ f < S 2) (hn : 1 ≤ n ∧ n ≤ 999) : ms_T (f_X10_wouldBe f n M) (fun v N => v = ms_wd S f n ∧ N 341 = S ∧ rf_d M N) := by
  have l := ms_lines h
  unfold f_X10_wouldBe
  rw [sd_wid (by omega) (by omega), if_pos (by omega), sd_tn62 hf.1]
  have ok2 := ms_ok_62 h hn (f := f.toNat) (by omega)
  have r1 : sd_s M 341 (62 + f.toNat) n 341 = ms_u S (62 + f.toNat) n := by rw [sd_s_row, e]
  refine ms_t_b (rf_settlesAll (M := sd_s M 341 (62 + f.toNat) n) (by rw [r1]; exact ok2)) (fun _ N1 h1 => ?_)
  rw [r1] at h1
  simp only []
  have ok3 := ms_st_ok ok2
  refine ms_t_b (rf_signedOf (M := N1) (by rw [h1.1]; exact ok3) f) (fun v N2 h2 => ?_)
  simp only []
  have d2 : rf_d M N2 := rf_d_tr (rf_d_tr rf_d_1 (rf_d_g h1.2)) (rf_d_f h2.2)
  have e2 : N2 341 = ms_st (ms_u S (62 + f.toNat) n) := by rw [rf_f_41 h2.2, h1.1]
  refine ms_t_b (rf_laysBack (M := N2) (S := S) (rf_kp_d hk d2) (by rw [e2]; exact ms_ou_tr (ms_ou_u (by omega)) (ms_ou_st ok2))) (fun _ N3 h3 => ms_t_r ⟨?_, h3.1, rf_d_tr d2 (rf_d_41 h3.2)⟩)
  rw [h1.1] at h2
  exact h2.1
theorem sp_would : sd_S2 sd_Iv f_X9_would f_X10_would := iv_q2 (fun M h p n hp hn => by
  have ok := iv_ok h
  by_cases c : (0 ≤ p ∧ p < M 341 2) ∧ M 341 (71 + p.toNat) = 1
  · by_cases d : 1 ≤ n ∧ n ≤ 999
    · refine ⟨ms_wd (M 341) p n, ?_, fun N hN q => ?_⟩
      · unfold f_X9_would
        rw [iv_isLine h, if_pos c, Option.bind_some]
        simp only []
        rw [if_neg (by omega), cl_isNumber, if_pos d, Option.bind_some]
        simp only []
        rw [if_neg (by omega)]
        exact ms_t_b (cl_wd ok (iv_bk h) (iv_tn h) c.1 d) (fun v K hK => ms_t_r ⟨hK.1, cl_qf_fr hK.2⟩)
      · have e : N 341 = M 341 := cl_qf_hi q (by omega)
        unfold f_X10_would
        rw [rf_isLine (iv_ok hN), e, if_pos c, Option.bind_some]
        simp only []
        rw [if_neg (by omega), rf_in, if_pos d, Option.bind_some]
        simp only []
        rw [if_neg (by omega)]
        refine ms_t_b rf_keeps (fun _ K hK => ?_)
        rw [e] at hK
        simp only []
        have eK : K 341 = M 341 := by rw [hK.1 341 (by omega), e]
        exact ms_t_b (rf_wd eK ok hK.2 c.1 d) (fun v L hL => ms_t_r ⟨hL.1, rf_q_tr (rf_q_kp hK.1) (rf_q_d hL.2.2 (hL.2.1.trans eK.symm))⟩)
    · refine ⟨-1, ?_, fun N hN q => ?_⟩
      · unfold f_X9_would
        rw [iv_isLine h, if_pos c, Option.bind_some]
        simp only []
        rw [if_neg (by omega), cl_isNumber, if_neg d, Option.bind_some]
        exact ms_t_r ⟨rfl, cl_qf_rf⟩
      · have e : N 341 = M 341 := cl_qf_hi q (by omega)
        unfold f_X10_would
        rw [rf_isLine (iv_ok hN), e, if_pos c, Option.bind_some]
        simp only []
        rw [if_neg (by omega), rf_in, if_neg d, Option.bind_some]
        exact ms_t_r ⟨rfl, rf_q_rf⟩
  · refine ⟨-1, ?_, fun N hN q => ?_⟩
    · unfold f_X9_would
      rw [iv_isLine h, if_neg c, Option.bind_some]
      exact ms_t_r ⟨rfl, cl_qf_rf⟩
    · unfold f_X10_would
      rw [rf_isLine (iv_ok hN), cl_qf_hi q (show 331 ≤ 341 by omega), if_neg c, Option.bind_some]
      exact ms_t_r ⟨rfl, rf_q_rf⟩)
/-- the least number that does -/
def ms_ls (S : Nat → Int) (f g : Int) : Nat → Int → Int
  | 0, _ => -2
  | m + 1, n => if ms_wd S f n < g then ms_ls S f g m (n + 1) else n
theorem ms_ls_s {S : Nat → Int} {f g : Int} : ∀ (d m : Nat) (n : Int), (∀ j, n ≤ j → j < n + d → ms_wd S f j < g) → ms_ls S f g (m + d) n = ms_ls S f g m (n + d)
  | 0, m, n, _ => by simp
  | d + 1, m, n, h => by
    rw [← Nat.add_assoc, ms_ls, if_pos (h n (by omega) (by omega)), ms_ls_s d m (n + 1) (fun j x y => h j (by omega) (by omega))]
    congr 1
    omega
theorem ms_ls_0 {S : Nat → Int} {f g : Int} : ∀ (m : Nat) (n : Int), (∀ j, n ≤ j → j < n + m → ms_wd S f j < g) → ms_ls S f g m n = -2
  | 0, _, _ => rfl
  | m + 1, n, h => by
    rw [ms_ls, if_pos (h n (by omega) (by omega)), ms_ls_0 m (n + 1) (fun j x y => h j (by omega) (by omega))]
theorem ms_se_62 : ∀ (q : Nat) {S : Nat → Int}, ms_ok S → ∀ i, i < 9 → ms_se q S (62 + i) = S (62 + i)
  | 0, _, _, _, _ => rfl
  | q + 1, S, h, i, hi => by
    rw [ms_se]
    split
    · rename_i hc
      rw [ms_se_62 q (ms_go_ok h hc) i hi, ms_go_62 (by omega) hi]
    · rfl
theorem ms_wd_b {S : Nat → Int} (h : ms_ok S) {f n : Int} (hf : 0 ≤ f ∧ f < S 2) (hn : 1 ≤ n ∧ n ≤ 999) : ms_wd S f n ≤ n ∧ ms_wd S f n ≤ S 59 := by
  have l := ms_lines h
  have ok2 := ms_ok_62 h hn (f := f.toNat) (by omega)
  have b := ms_sg_b (ms_st_ok ok2) f
  have e1 : ms_st (ms_u S (62 + f.toNat) n) (62 + f.toNat) = n := by
    unfold ms_st
    rw [ms_se_62 9 ok2 f.toNat (by omega), ms_u_at]
  have e2 : ms_st (ms_u S (62 + f.toNat) n) 59 = S 59 := by
    unfold ms_st
    rw [ms_se_58 9 ok2 59 (by omega), ms_u_ne (by omega)]
  have e3 : ms_st (ms_u S (62 + f.toNat) n) 2 = S 2 := by
    unfold ms_st
    rw [ms_se_58 9 ok2 2 (by omega), ms_u_ne (by omega)]
  rw [e1, e2, e3] at b
  unfold ms_wd
  exact ⟨b.2.2.2 hf, b.2.2.1⟩
theorem cl_least_l {M0 : sd_M} (h : sd_Iv M0) {f g : Int} (hf : 0 ≤ f ∧ f < M0 341 2) : ∀ (m fu : Nat) (n : Int) (M : sd_M), n + m = 1000 → m < fu → 1 ≤ n → cl_qf M0 M → ms_T (f_X9_least_36 fu f g n M) (fun v N => v = ms_ls (M0 341) f g m n ∧ cl_qf M0 N) := by
  intro m
  induction m with
  | zero =>
    intro fu n M hn hf2 h1 q
    obtain ⟨fu, rfl⟩ : ∃ g, fu = g + 1 := ⟨fu - 1, by omega⟩
    rw [f_X9_least_36, if_pos (by omega)]
    exact ms_t_r ⟨rfl, q⟩
  | succ m ih =>
    intro fu n M hn hf2 h1 q
    obtain ⟨fu, rfl⟩ : ∃ g, fu = g + 1 := ⟨fu - 1, by omega⟩
    have hM := cl_qf_iv h q
    have e : M 341 = M0 341 := cl_qf_hi q (by omega)
    have bk := iv_bk hM
    have tn := iv_tn hM
    rw [e] at bk tn
    rw [f_X9_least_36, if_neg (by omega), sd_wid (by omega) (by omega), ms_ls]
    refine ms_t_b (cl_wd (iv_ok h) bk tn hf (n := n) (by omega)) (fun v N hN => ?_)
    simp only []
    have q2 := cl_qf_tr q (cl_qf_fr hN.2)
    rw [hN.1]
    by_cases c : ms_wd (M0 341) f n < g
    · rw [if_pos c, if_pos c]
      exact ih fu (n + 1) N (by omega) (by omega) (by omega) q2
    · rw [if_neg c, if_neg c]
      exact ms_t_r ⟨rfl, q2⟩
theorem rf_least_l {S : Nat → Int} (h : ms_ok S) {f g : Int} (hf : 0 ≤ f ∧ f < S 2) {M0 : sd_M} : ∀ (m fu : Nat) (n : Int) (M : sd_M), n + m = 1000 → m < fu → 1 ≤ n → M 341 = S → rf_kp M S → rf_d M0 M → ms_T (f_X10_least_28 fu f g n M) (fun v N => v = ms_ls S f g m n ∧ N 341 = S ∧ rf_d M0 N) := by
  intro m
  induction m with
  | zero =>
    intro fu n M hn hf2 h1 e k q
    obtain ⟨fu, rfl⟩ : ∃ g, fu = g + 1 := ⟨fu - 1, by omega⟩
    rw [f_X10_least_28, if_pos (by omega)]
    exact ms_t_r ⟨rfl, e, q⟩
  | succ m ih =>
    intro fu n M hn hf2 h1 e k q
    obtain ⟨fu, rfl⟩ : ∃ g, fu = g + 1 := ⟨fu - 1, by omega⟩
    rw [f_X10_least_28, if_neg (by omega), sd_wid (by omega) (by omega), ms_ls]
    refine ms_t_b (rf_wd e h k hf (n := n) (by omega)) (fun v N hN => ?_)
    simp only []
    have q2 := rf_d_tr q hN.2.2
    rw [hN.1]
    by_cases c : ms_wd S f n < g
    · rw [if_pos c, if_pos c]
      exact ih fu (n + 1) N (by omega) (by omega) (by omega) hN.2.1 (rf_kp_d k hN.2.2) q2
    · rw [if_neg c, if_neg c]
      exact ms_t_r ⟨rfl, hN.2.1, q2⟩
theorem sp_least : sd_S2 sd_Iv f_X9_least f_X10_least := iv_q2 (fun M h p n hp hn => by
  have ok := iv_ok h
  by_cases c : (0 ≤ p ∧ p < M 341 2) ∧ M 341 (71 + p.toNat) = 1
  · by_cases d : 1 ≤ n ∧ n ≤ 999
    · refine ⟨ms_ls (M 341) p n 999 1, ?_, fun N hN q => ?_⟩
      · unfold f_X9_least
        rw [iv_isLine h, if_pos c, Option.bind_some]
        simp only []
        rw [if_neg (by omega), cl_isNumber, if_pos d, Option.bind_some]
        simp only []
        rw [if_neg (by omega), (iv_bk h).1.1.1]
        by_cases g : n ≤ M 341 59
        · rw [if_pos g]
          have s := ms_ls_s (S := M 341) (f := p) (g := n) (n - 1).toNat (1000 - n).toNat 1 (fun j x y => by
            have := (ms_wd_b ok c.1 (n := j) (by omega)).1
            omega)
          rw [show (1000 - n).toNat + (n - 1).toNat = 999 by omega, show 1 + ((n - 1).toNat : Int) = n by omega] at s
          rw [s]
          exact cl_least_l h c.1 (1000 - n).toNat 4000 n M (by omega) (by omega) d.1 cl_qf_rf
        · rw [if_neg g, ms_ls_0 999 1 (fun j x y => by
            have := (ms_wd_b ok c.1 (n := j) (by omega)).2
            omega)]
          exact ms_t_r ⟨rfl, cl_qf_rf⟩
      · have e : N 341 = M 341 := cl_qf_hi q (by omega)
        unfold f_X10_least
        rw [rf_isLine (iv_ok hN), e, if_pos c, Option.bind_some]
        simp only []
        rw [if_neg (by omega), rf_in, if_pos d, Option.bind_some]
        simp only []
        rw [if_neg (by omega)]
        refine ms_t_b rf_keeps (fun _ K hK => ?_)
        rw [e] at hK
        simp only []
        have eK : K 341 = M 341 := by rw [hK.1 341 (by omega), e]
        exact ms_t_w (rf_least_l ok c.1 (g := n) (M0 := K) 999 4000 1 K (by omega) (by omega) (by omega) eK hK.2 rf_d_rf) (fun v L hL => ⟨hL.1, rf_q_tr (rf_q_kp hK.1) (rf_q_d hL.2.2 (hL.2.1.trans eK.symm))⟩)
    · refine ⟨-1, ?_, fun N hN q => ?_⟩
      · unfold f_X9_least
        rw [iv_isLine h, if_pos c, Option.bind_some]
        simp only []
        rw [if_neg (by omega), cl_isNumber, if_neg d, Option.bind_some]
        exact ms_t_r ⟨rfl, cl_qf_rf⟩
      · have e : N 341 = M 341 := cl_qf_hi q (by omega)
        unfold f_X10_least
        rw [rf_isLine (iv_ok hN), e, if_pos c, Option.bind_some]
        simp only []
        rw [if_neg (by omega), rf_in, if_neg d, Option.bind_some]
        exact ms_t_r ⟨rfl, rf_q_rf⟩
  · refine ⟨-1, ?_, fun N hN q => ?_⟩
    · unfold f_X9_least
      rw [iv_isLine h, if_neg c, Option.bind_some]
      exact ms_t_r ⟨rfl, cl_qf_rf⟩
    · unfold f_X10_least
      rw [rf_isLine (iv_ok hN), cl_qf_hi q (show 331 ≤ 341 by omega), if_neg c, Option.bind_some]
      exact ms_t_r ⟨rfl, rf_q_rf⟩)
/-! worst -/
theorem cl_tryStriking {M : sd_M} {S : Nat → Int} (h : ms_ok S) (hb : cl_bk M 66 S) (ht : cl_tn M S) {f : Int} (hf : (0 ≤ f ∧ f < S 2) ∧ S (71 + f.toNat) = 1) : ms_T (f_X9_tryStriking f M) (fun _ N => cl_bk N 318 (ms_ca S f) ∧ cl_fr M N 318) := by
  unfold f_X9_tryStriking
  obtain ⟨N1, e1, b1, f1⟩ := cl_copy_k (M := M) (b := 318) (o := 66) (by omega) h hb
  rw [e1, Option.bind_some]
  simp only []
  have t1 : cl_tn N1 S := cl_tn_c ht h.1.2.2.1.2 (fun a x y => f1 a (by omega)) (fun i hi => rfl)
  exact ms_t_b (cl_strike (by omega) h b1 t1 hf) (fun _ N2 h2 => ms_t_r ⟨h2.2.1, cl_fr_tr f1 h2.2.2⟩)
def ms_wk (S : Nat → Int) : Nat → Int × Int
  | 0 => (-2, -2)
  | k + 1 => if (ms_wk S k).2 < ms_sh (ms_ca S (S (89 + k))) then (S (89 + k), ms_sh (ms_ca S (S (89 + k)))) else ms_wk S k
theorem ms_ln {S : Nat → Int} (h : ms_ok S) {k : Nat} (hk : (k : Int) < S 60) : (0 ≤ S (89 + k) ∧ S (89 + k) < S 2) ∧ S (71 + (S (89 + k)).toNat) = 1 := ⟨(ms_line h hk).1, (ms_line h hk).2.1⟩
theorem cl_worst_l {M0 : sd_M} (h : sd_Iv M0) (w : Int) : ∀ (m k fu : Nat) (M : sd_M), (k : Int) + m = M0 341 60 → m < fu → cl_qf M0 M → ms_T (f_X9_worst_33 f_X9_worst_97 fu w (ms_wk (M0 341) k).1 (ms_wk (M0 341) k).2 (k : Int) M) (fun v N => v = (if w = 0 then (ms_wk (M0 341) (M0 341 60).toNat).1 else (ms_wk (M0 341) (M0 341 60).toNat).2) ∧ cl_qf M0 N) := by
  have ok := iv_ok h
  have l := ms_lines ok
  intro m
  induction m with
  | zero =>
    intro k fu M hk hf q
    obtain ⟨fu, rfl⟩ : ∃ g, fu = g + 1 := ⟨fu - 1, by omega⟩
    have bk := iv_bk (cl_qf_iv h q)
    have e : M 341 = M0 341 := cl_qf_hi q (by omega)
    rw [e] at bk
    rw [f_X9_worst_33, bk.1.1.2.2.1, if_pos (by omega), show (M0 341 60).toNat = k by omega, f_X9_worst_97]
    split
    · exact ms_t_r ⟨rfl, q⟩
    · exact ms_t_r ⟨rfl, q⟩
  | succ m ih =>
    intro k fu M hk hf q
    obtain ⟨fu, rfl⟩ : ∃ g, fu = g + 1 := ⟨fu - 1, by omega⟩
    have hM := cl_qf_iv h q
    have bk := iv_bk hM
    have tn := iv_tn hM
    have e : M 341 = M0 341 := cl_qf_hi q (by omega)
    rw [e] at bk tn
    have e6 : M 72 k = M0 341 (89 + k) := bk.1.2.2.2.1 k (by omega)
    have ln := ms_ln ok (k := k) (by omega)
    have cok := ms_ca_ok ok ln
    rw [f_X9_worst_33, bk.1.1.2.2.1, if_neg (by omega), if_pos (by omega), Int.toNat_natCast, e6]
    refine ms_t_b (cl_tryStriking ok bk tn ln) (fun _ N hN => ?_)
    simp only []
    have q2 := cl_qf_tr q (cl_qf_fr hN.2)
    rw [cl_lack cok hN.1.1.1.1 hN.1.2.1, Option.bind_some]
    simp only [f_X9_worst_91, sd_wid (z := (k : Int) + 1) (by omega) (by omega)]
    rw [cl_lack cok hN.1.1.1.1 hN.1.2.1, Option.bind_some]
    have up := ih (k + 1) fu N (by omega) (by omega) q2
    push_cast at up
    rw [ms_wk] at up
    by_cases c : (ms_wk (M0 341) k).2 < ms_sh (ms_ca (M0 341) (M0 341 (89 + k)))
    · rw [if_pos c] at up
      rw [if_neg (by omega)]
      exact up
    · rw [if_neg c] at up
      rw [if_pos (by omega)]
      exact up
theorem rf_ca {M : sd_M} {S : Nat → Int} (e : M 341 = S) (h : ms_ok S) {f : Int} (hf : (0 ≤ f ∧ f < S 2) ∧ S (71 + f.toNat) = 1) : ms_T (f_X10_cancels f M) (fun v N => v = ms_ca S f 61 - S 61 ∧ N 341 = ms_ca S f ∧ rf_d M N) := by
  subst e
  exact ms_t_w (rf_cancels h hf) (fun v N hN => ⟨hN.1, hN.2.1, rf_d_g hN.2.2⟩)
theorem rf_worst_l {S : Nat → Int} (h : ms_ok S) {M0 : sd_M} (w : Int) : ∀ (m k fu : Nat) (M : sd_M), (k : Int) + m = S 60 → m < fu → M 341 = S → rf_kp M S → rf_d M0 M → ms_T (f_X10_worst_41 f_X10_worst_98 fu w (ms_wk S k).1 (ms_wk S k).2 (S 60) (k : Int) M) (fun v N => v = (if w = 0 then (ms_wk S (S 60).toNat).1 else (ms_wk S (S 60).toNat).2) ∧ N 341 = S ∧ rf_d M0 N) := by
  have l := ms_lines h
  intro m
  induction m with
  | zero =>
    intro k fu M hk hf e kp q
    obtain ⟨fu, rfl⟩ : ∃ g, fu = g + 1 := ⟨fu - 1, by omega⟩
    rw [f_X10_worst_41, if_pos (by omega), show (S 60).toNat = k by omega, f_X10_worst_98]
    split
    · exact ms_t_r ⟨rfl, e, q⟩
    · exact ms_t_r ⟨rfl, e, q⟩
  | succ m ih =>
    intro k fu M hk hf e kp q
    obtain ⟨fu, rfl⟩ : ∃ g, fu = g + 1 := ⟨fu - 1, by omega⟩
    have ln := ms_ln h (k := k) (by omega)
    have cok := ms_ca_ok h ln
    rw [f_X10_worst_41, if_neg (by omega), sd_wid (z := 89 + (k : Int)) (by omega) (by omega), if_pos (by omega), show (89 + (k : Int)).toNat = 89 + k by omega, e]
    refine ms_t_b (rf_ca e h ln) (fun _ N hN => ?_)
    simp only []
    rw [rf_shortNow (by rw [hN.2.1]; exact cok), Option.bind_some, hN.2.1]
    simp only []
    have q2 := rf_d_tr q hN.2.2
    refine ms_t_b (rf_laysBack (M := N) (S := S) (rf_kp_d kp hN.2.2) (by rw [hN.2.1]; exact ms_ou_ca h ln)) (fun _ K hK => ?_)
    simp only [f_X10_worst_92, sd_wid (z := (k : Int) + 1) (by omega) (by omega)]
    have q3 := rf_d_tr q2 (rf_d_41 hK.2)
    have up := ih (k + 1) fu K (by omega) (by omega) hK.1 (rf_kp_d kp (rf_d_tr hN.2.2 (rf_d_41 hK.2))) q3
    push_cast at up
    rw [ms_wk] at up
    by_cases c : (ms_wk S k).2 < ms_sh (ms_ca S (S (89 + k)))
    · rw [if_pos c] at up
      rw [if_pos c]
      exact up
    · rw [if_neg c] at up
      rw [if_neg c]
      exact up
/-- a slip must be there; what is asked is one of some -/
theorem rf_sl1 {M : sd_M} (h : M 341 0 = 1) : f_X10_isSlip M = some (1, M) := by rw [rf_isSlip, if_pos h]
theorem rf_sl0 {M : sd_M} (h : M 341 0 ≠ 1) : f_X10_isSlip M = some (0, M) := by rw [rf_isSlip, if_neg h]
theorem rf_in1 {M : sd_M} {v a b : Int} (h : a ≤ v ∧ v ≤ b) : f_X10_in v a b M = some (1, M) := by rw [rf_in, if_pos h]
theorem rf_in0 {M : sd_M} {v a b : Int} (h : ¬ (a ≤ v ∧ v ≤ b)) : f_X10_in v a b M = some (0, M) := by rw [rf_in, if_neg h]
theorem sp_worst : sd_S1 sd_Iv f_X9_worst f_X10_worst := iv_q1 (fun M h w hw => by
  have ok := iv_ok h
  have l := ms_lines ok
  have sp := iv_sp h
  by_cases c : M 341 0 = 1
  · by_cases d : 0 ≤ w ∧ w ≤ 1
    · refine ⟨if w = 0 then (ms_wk (M 341) (M 341 60).toNat).1 else (ms_wk (M 341) (M 341 60).toNat).2, ?_, fun N hN q => ?_⟩
      · unfold f_X9_worst
        rw [if_neg (by omega), if_neg (by omega), if_pos (by omega)]
        exact cl_worst_l h w (M 341 60).toNat 0 4000 M (by omega) (by omega) cl_qf_rf
      · have e : N 341 = M 341 := cl_qf_hi q (by omega)
        unfold f_X10_worst
        rw [rf_sl1 (by rw [e]; exact c), Option.bind_some]
        simp only []
        rw [if_neg (by omega), rf_in1 d, Option.bind_some]
        simp only []
        rw [if_neg (by omega)]
        refine ms_t_b rf_keeps (fun _ K hK => ?_)
        rw [e] at hK
        simp only []
        have eK : K 341 = M 341 := by rw [hK.1 341 (by omega), e]
        rw [e]
        exact ms_t_w (rf_worst_l ok (M0 := K) w (M 341 60).toNat 0 4000 K (by omega) (by omega) eK hK.2 rf_d_rf) (fun v L hL => ⟨hL.1, rf_q_tr (rf_q_kp hK.1) (rf_q_d hL.2.2 (hL.2.1.trans eK.symm))⟩)
    · refine ⟨-1, ?_, fun N hN q => ?_⟩
      · unfold f_X9_worst
        rw [if_neg (by omega)]
        by_cases g : w < 0
        · rw [if_pos g]
          exact ms_t_r ⟨rfl, cl_qf_rf⟩
        · rw [if_neg g, if_neg (by omega)]
          exact ms_t_r ⟨rfl, cl_qf_rf⟩
      · have e : N 341 = M 341 := cl_qf_hi q (by omega)
        unfold f_X10_worst
        rw [rf_sl1 (by rw [e]; exact c), Option.bind_some]
        simp only []
        rw [if_neg (by omega), rf_in0 d, Option.bind_some]
        exact ms_t_r ⟨rfl, rf_q_rf⟩
  · refine ⟨-1, ?_, fun N hN q => ?_⟩
    · unfold f_X9_worst
      rw [if_pos (by omega)]
      exact ms_t_r ⟨rfl, cl_qf_rf⟩
    · unfold f_X10_worst
      rw [rf_sl0 (by rw [cl_qf_hi q (show 331 ≤ 341 by omega)]; exact c), Option.bind_some]
      exact ms_t_r ⟨rfl, rf_q_rf⟩)
