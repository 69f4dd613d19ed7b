/-! sizes, standing -/
def ms_ff (P : Nat → Bool) (v : Nat → Int) (d : Int) : Nat → Int
  | 0 => d
  | n + 1 => if P n = true ∧ ms_ct P n = 0 then v n else ms_ff P v d n
theorem ms_ff_x {P : Nat → Bool} {v : Nat → Int} {d : Int} : ∀ n, ms_fx P v d 0 n (ms_ff P v d n)
  | 0 => ms_fx_0
  | n + 1 => ms_fx_up (ms_ff_x n)
theorem ms_tl_4 {S : Nat → Int} (h : ms_tl S) {o : Nat} (ho : o < 9) {v : Int} (hv : 1 ≤ v ∧ v ≤ 999) : ms_tl (ms_u S (4 + o) v) := by
  obtain ⟨t0, t2, t3, tf, tk, t4, t5, t6⟩ := h
  unfold ms_tl
  rw [ms_u_ne (show 0 ≠ 4 + o by omega), ms_u_ne (show 1 ≠ 4 + o by omega), ms_u_ne (show 2 ≠ 4 + o by omega), ms_u_ne (show 3 ≠ 4 + o by omega)]
  refine ⟨t0, t2, t3, fun f hf => ?_, fun k hk => ?_, t4, t5, t6⟩
  · have a := tf f hf
    rw [ms_u_ne (show 13 + f ≠ 4 + o by omega)]
    by_cases e : f = o
    · rw [e, ms_u_at]
      rw [e] at a
      exact ⟨hv, a.2⟩
    · rw [ms_u_ne (by omega)]
      exact a
  · rw [ms_u_ne (by omega), ms_u_ne (by omega), ms_u_ne (by omega)]
    exact tk k hk
theorem ms_tl_13 {S : Nat → Int} (h : ms_tl S) {o : Nat} (ho : o < 9) {v : Int} (hv : v = 0 ∨ v = 1) : ms_tl (ms_u S (13 + o) v) := by
  obtain ⟨t0, t2, t3, tf, tk, t4, t5, t6⟩ := h
  unfold ms_tl
  rw [ms_u_ne (show 0 ≠ 13 + o by omega), ms_u_ne (show 1 ≠ 13 + o by omega), ms_u_ne (show 2 ≠ 13 + o by omega), ms_u_ne (show 3 ≠ 13 + o by omega)]
  refine ⟨t0, t2, t3, fun f hf => ?_, fun k hk => ?_, t4, t5, t6⟩
  · have a := tf f hf
    rw [ms_u_ne (show 4 + f ≠ 13 + o by omega)]
    by_cases e : f = o
    · rw [e, ms_u_at]
      rw [e] at a
      exact ⟨a.1, hv⟩
    · rw [ms_u_ne (by omega)]
      exact a
  · rw [ms_u_ne (by omega), ms_u_ne (by omega), ms_u_ne (by omega)]
    exact tk k hk
theorem ms_bg_c {S T : Nat → Int} (b : S 2 ≤ 9) (e : ∀ i, (i < 58 ∨ 107 ≤ i) → T i = S i) : ms_bg T = ms_bg S := by
  funext i
  unfold ms_bg
  rw [e 1 (by omega), e 2 (by omega)]
  by_cases c1 : 62 ≤ i ∧ i < 62 + (S 2).toNat
  · rw [if_pos c1, if_pos c1, e (i - 58) (by omega)]
  · rw [if_neg c1, if_neg c1]
    by_cases c2 : i = 59
    · rw [if_pos c2, if_pos c2]
    · rw [if_neg c2, if_neg c2]
      by_cases c3 : 58 ≤ i ∧ i < 107
      · rw [if_pos c3, if_pos c3]
      · rw [if_neg c3, if_neg c3, e i (by omega)]
/-- a book at its begin, one number of it another -/
theorem cl_bgk {M N K : sd_M} {b : Nat} {S : Nat → Int} (tl : ms_tl S) (z : cl_bz M N b) (h1 : M 59 1 = S 1) (e0 : K b = N b) (e3 : K (b + 3) = N (b + 3)) (e4 : K (b + 4) = N (b + 4)) (e5 : K (b + 5) = N (b + 5)) (hw : ∀ f : Nat, (f : Int) < S 2 → K (b + 1) f = S (4 + f) ∧ K (b + 2) f = S (13 + f)) : cl_bk K b (ms_bg S) := by
  have l : 0 ≤ S 2 ∧ S 2 ≤ 9 := tl.2.1
  obtain ⟨⟨z0, z1, z2, z3, z4⟩, zf⟩ := z
  refine cl_bk_0 (by rw [e0, z0, h1, ms_bg_59]) (by rw [e0, z1, ms_bg_0 l.2 (by omega) (by omega) (by omega)]) (by rw [e0]; exact z2) (by rw [e0]; exact z3) (by rw [e0]; exact z4) (ms_bg_0 l.2 (by omega) (by omega) (by omega)) (ms_bg_0 l.2 (by omega) (by omega) (by omega)) (fun f hf => ms_bg_0 l.2 (by omega) (by omega) (by omega)) (fun f hf => ?_) (fun f hf => ?_)
  · rw [ms_bg_lo (by omega)] at hf
    have q := hw f hf
    have w := zf f (by omega)
    rw [e5, q.1, q.2, w.2.2.2.2, ms_bg_62 hf, ms_bg_lo (by omega), ms_bg_0 l.2 (by omega) (by omega) (by omega)]
    exact ⟨rfl, rfl, rfl⟩
  · have w := zf f hf
    rw [e3, e4]
    exact ⟨w.2.2.1, w.2.2.2.1⟩
def ms_ps1 (W : (Nat → Int) → Int → Int) (S : Nat → Int) (o : Nat) (i : Nat) : Bool := ms_ac S (ms_co W (ms_bg (ms_u S (4 + o) (10 * ((i : Int) + 1))))) 31 0
theorem cl_sizes_l {M0 : sd_M} (h : sd_Iv M0) {W : (Nat → Int) → Int → Int} (hW : cl_W M0 (cl_ra (M0 58 3) (M0 0 4)) W) {o : Nat} (ho : (o : Int) < M0 341 2) (w : Int) : ∀ (m i fu : Nat) (M : sd_M), i + m = 99 → m < fu → cl_qf M0 M → ms_T (f_X9_sizes_29 f_X9_sizes_96 fu (o : Int) w (ms_ct (ms_ps1 W (M0 341) o) i) (ms_ff (ms_ps1 W (M0 341) o) (fun i => 10 * ((i : Int) + 1)) (-2) i) (10 * ((i : Int) + 1)) M) (fun r N => r = (if w = 0 then ms_ct (ms_ps1 W (M0 341) o) 99 else ms_ff (ms_ps1 W (M0 341) o) (fun i => 10 * ((i : Int) + 1)) (-2) 99) ∧ cl_qf M0 N) := by
  have ok := iv_ok h
  have l := ms_lines ok
  intro m
  induction m with
  | zero =>
    intro i fu M hi hf q
    obtain ⟨fu, rfl⟩ : ∃ g, fu = g + 1 := ⟨fu - 1, by omega⟩
    rw [f_X9_sizes_29, if_pos (by omega), f_X9_sizes_96, show i = 99 by omega]
    by_cases w0 : w = 0
    · rw [if_pos w0, if_pos w0]
      exact ms_t_r ⟨rfl, q⟩
    · rw [if_neg w0, if_neg w0]
      exact ms_t_r ⟨rfl, q⟩
  | succ m ih =>
    intro i fu M hi hf q
    obtain ⟨fu, rfl⟩ : ∃ g, fu = g + 1 := ⟨fu - 1, by omega⟩
    have hM := cl_qf_iv h q
    have e : M 341 = M0 341 := cl_qf_hi q (by omega)
    have tw := iv_tw hM
    rw [e] at tw
    have cb := ms_ct_b (p := ms_ps1 W (M0 341) o) i
    rw [f_X9_sizes_29, if_neg (by omega)]
    refine ms_t_b (cl_begin (M := M) (b := 318) (by omega)) (fun _ N hN => ?_)
    simp only []
    rw [if_pos (by omega), Int.toNat_natCast, cl_rif, Option.bind_some]
    simp only []
    have q2 : cl_qf M0 (sd_s N 319 o (10 * ((i : Int) + 1))) := cl_qf_tr q (cl_qf_tr (cl_qf_fr hN.2) (cl_qf_s (by omega)))
    rw [cl_qf_mi q2 (show 58 ≤ 58 ∧ 58 < 316 by omega), q2 0 (by omega) (fun r _ => by omega)]
    have tl := ms_tl_4 ok.1 (o := o) (by omega) (v := 10 * ((i : Int) + 1)) (by omega)
    have bk : cl_bk (sd_s N 319 o (10 * ((i : Int) + 1))) 318 (ms_bg (ms_u (M0 341) (4 + o) (10 * ((i : Int) + 1)))) := by
      refine cl_bgk tl hN.1 (by rw [tw.1.2, ms_u_ne (by omega)]) (sd_s_a (by omega)) (sd_s_a (by omega)) (sd_s_a (by omega)) (sd_s_a (by omega)) (fun f hf => ?_)
      rw [ms_u_ne (by omega)] at hf
      have w1 := hN.1.2 f (by omega)
      have w2 := tw.2 f hf
      rw [sd_s_a (show (318 + 2 : Nat) ≠ 319 by omega), w1.2.1, w2.2, ms_u_ne (show 13 + f ≠ 4 + o by omega)]
      refine ⟨?_, rfl⟩
      by_cases c : f = o
      · rw [c, show (318 + 1 : Nat) = 319 from rfl, sd_s_at, ms_u_at]
      · rw [show (318 + 1 : Nat) = 319 from rfl, sd_s_j c, ms_u_ne (by omega), ← w2.1]
        exact w1.1
    refine ms_t_b (cl_goes h (ms_bg_ok tl) (ms_bg_0 tl.2.1.2 (by omega) (by omega) (by omega)) (fun j hj => by rw [ms_bg_lo (by omega), ms_u_ne (by omega)]) hW q2 bk) (fun v K hK => ?_)
    simp only [f_X9_sizes_90, f_X9_sizes_88]
    rw [sd_wid (z := 10 * ((i : Int) + 1) + 10) (by omega) (by omega), hK.1]
    have up := ih (i + 1) fu K (by omega) (by omega) hK.2
    have ct1 : ms_ct (ms_ps1 W (M0 341) o) (i + 1) = ms_ct (ms_ps1 W (M0 341) o) i + if ms_ps1 W (M0 341) o i = true then 1 else 0 := rfl
    have ff1 : ms_ff (ms_ps1 W (M0 341) o) (fun i => 10 * ((i : Int) + 1)) (-2) (i + 1) = if ms_ps1 W (M0 341) o i = true ∧ ms_ct (ms_ps1 W (M0 341) o) i = 0 then 10 * ((i : Int) + 1) else ms_ff (ms_ps1 W (M0 341) o) (fun i => 10 * ((i : Int) + 1)) (-2) i := rfl
    rw [ct1, ff1] at up
    push_cast at up
    rw [show 10 * ((i : Int) + 1 + 1) = 10 * ((i : Int) + 1) + 10 by omega] at up
    have pe : ms_ac (M0 341) (ms_co W (ms_bg (ms_u (M0 341) (4 + o) (10 * ((i : Int) + 1))))) 31 0 = ms_ps1 W (M0 341) o i := rfl
    rw [pe]
    cases c : ms_ps1 W (M0 341) o i
    · rw [c, if_neg (by simp), if_neg (by simp), Int.add_zero] at up
      rw [ms_i0 (by simp), if_pos rfl]
      exact up
    · rw [c, if_pos rfl] at up
      rw [ms_i1 rfl, if_neg (by omega), sd_wid (by omega) (by omega)]
      by_cases z : ms_ct (ms_ps1 W (M0 341) o) i = 0
      · rw [if_pos ⟨rfl, z⟩] at up
        rw [if_pos (by omega)]
        exact up
      · rw [if_neg (fun y => z y.2)] at up
        rw [if_neg (by omega)]
        exact up
/-- alike but for one number of what was told -/
def ms_ox (S T : Nat → Int) (a : Nat) : Prop := ∀ i, (i < 58 ∨ 107 ≤ i) → i ≠ a → T i = S i
theorem ms_ox_u {S T : Nat → Int} {a : Nat} (h : ms_ox S T a) (v : Int) : ∀ i, (i < 58 ∨ 107 ≤ i) → ms_u T a v i = ms_u S a v i := fun i hi => by
  by_cases c : i = a
  · rw [c, ms_u_at, ms_u_at]
  · rw [ms_u_ne c, ms_u_ne c, h i hi c]
/-- the reference, all so, with one number told otherwise -/
theorem rf_aox {M0 M : sd_M} {S : Nat → Int} (no : 0 ≤ S 127 ∧ S 127 ≤ 10) {W : (Nat → Int) → Int → Int} (hW : rf_W M0 (M0 331 21) W) {a : Nat} (ha : a < 58) (ox : ms_ox S (M 341) a) (y : rf_y M0 M) {v : Int} (tl : ms_tl (ms_u S a v)) : ms_T (f_X10_areAllSo 0 (sd_s M 341 a v)) (fun r N => r = (if ms_ac S (ms_co W (ms_bg (ms_u S a v))) 31 0 = true then 1 else 0) ∧ ms_ox S (N 341) a ∧ rf_y M0 N) := by
  have r41 : sd_s M 341 a v 341 = ms_u (M 341) a v := sd_s_row
  have e := ms_ox_u ox v
  have y2 : rf_y M0 (sd_s M 341 a v) := rf_y_tr y (rf_y_s (by omega))
  have w2 : rf_W (sd_s M 341 a v) (sd_s M 341 a v 331 21) W := by
    rw [y2.2 21 (by omega)]
    exact rf_W_y hW y2
  have z := rf_areAllSo (M := sd_s M 341 a v) (by rw [r41]; exact ms_tl_c (fun i hi => e i (by omega)) tl) (by rw [r41, e 127 (by omega), ms_u_ne (by omega)]; exact no) w2 (r := 0) (by omega)
  rw [r41, ms_bg_c tl.2.1.2 e, ms_ac_s (S := S) (T := ms_u (M 341) a v) (fun i hi => by rw [e i (by omega), ms_u_ne (by omega)])] at z
  refine ms_t_w z (fun r N hN => ⟨hN.1, fun i hi hia => ?_, rf_y_tr y2 hN.2.2.1⟩)
  rw [hN.2.1 i hi, e i hi, ms_u_ne hia]
theorem rf_sizes_l {M0 : sd_M} {S : Nat → Int} (ok : ms_ok S) (no : 0 ≤ S 127 ∧ S 127 ≤ 10) (kp : rf_kp M0 S) {W : (Nat → Int) → Int → Int} (hW : rf_W M0 (M0 331 21) W) {o : Nat} (ho : (o : Int) < S 2) (w : Int) : ∀ (n fu : Nat) (x : Int) (M : sd_M), n ≤ 99 → n < fu → ms_fx (ms_ps1 W S o) (fun i => 10 * ((i : Int) + 1)) (-2) n 99 x → ms_ox S (M 341) (4 + o) → rf_y M0 M → ms_T (f_X10_sizes_44 f_X10_sizes_89 fu (o : Int) w (S (4 + o)) (ms_ct (ms_ps1 W S o) 99 - ms_ct (ms_ps1 W S o) n) x (n : Int) M) (fun r N => r = (if w = 0 then ms_ct (ms_ps1 W S o) 99 else ms_ff (ms_ps1 W S o) (fun i => 10 * ((i : Int) + 1)) (-2) 99) ∧ N 341 = S ∧ rf_y M0 N) := by
  have l := ms_lines ok
  have cb99 := ms_ct_b (p := ms_ps1 W S o) 99
  intro n
  induction n with
  | zero =>
    intro fu x M hn hf hx ox y
    obtain ⟨fu, rfl⟩ : ∃ g, fu = g + 1 := ⟨fu - 1, by omega⟩
    rw [f_X10_sizes_44, if_pos (by omega), f_X10_sizes_89, sd_wid (z := 4 + (o : Int)) (by omega) (by omega), if_pos (by omega), show (4 + (o : Int)).toNat = 4 + o by omega]
    have r41 : sd_s M 341 (4 + o) (S (4 + o)) 341 = ms_u (M 341) (4 + o) (S (4 + o)) := sd_s_row
    have y2 : rf_y M0 (sd_s M 341 (4 + o) (S (4 + o))) := rf_y_tr y (rf_y_s (by omega))
    refine ms_t_b (rf_laysBack (M := sd_s M 341 (4 + o) (S (4 + o))) (S := S) (rf_kp_y kp y2) (fun i hi => ?_)) (fun _ N hN => ?_)
    · rw [r41]
      by_cases c : i = 4 + o
      · rw [c, ms_u_at]
      · rw [ms_u_ne c, ox i hi c]
    · simp only []
      have y3 := rf_y_tr y2 (rf_y_41 hN.2)
      have xe := ms_fx_u hx (ms_ff_x 99)
      have c0 : ms_ct (ms_ps1 W S o) 0 = 0 := rfl
      rw [c0, Int.sub_zero, xe]
      by_cases w0 : w = 0
      · rw [if_pos w0, if_pos w0]
        exact ms_t_r ⟨rfl, hN.1, y3⟩
      · rw [if_neg w0, if_neg w0]
        exact ms_t_r ⟨rfl, hN.1, y3⟩
  | succ n ih =>
    intro fu x M hn hf hx ox y
    obtain ⟨fu, rfl⟩ : ∃ g, fu = g + 1 := ⟨fu - 1, by omega⟩
    have cb := ms_ct_b (p := ms_ps1 W S o) n
    have tl := ms_tl_4 ok.1 (o := o) (by omega) (v := 10 * ((n : Int) + 1)) (by omega)
    have nn : ((n + 1 : Nat) : Int) = (n : Int) + 1 := by push_cast; rfl
    rw [nn, f_X10_sizes_44, if_neg (by omega), sd_wid (z := 4 + (o : Int)) (by omega) (by omega), if_pos (by omega), show (4 + (o : Int)).toNat = 4 + o by omega, sd_wid (z := 10 * ((n : Int) + 1)) (by omega) (by omega)]
    refine ms_t_b (rf_aox no hW (by omega) ox y tl) (fun v N hN => ?_)
    simp only [f_X10_sizes_83]
    rw [sd_wid (z := (n : Int) + 1 + (-1)) (by omega) (by omega), show (n : Int) + 1 + (-1) = n by omega, hN.1]
    have pe : ms_ac S (ms_co W (ms_bg (ms_u S (4 + o) (10 * ((n : Int) + 1))))) 31 0 = ms_ps1 W S o n := rfl
    rw [pe]
    have up := ih fu _ N (by omega) (by omega) (ms_fx_dn (by omega) hx) hN.2.1 hN.2.2
    have ct1 : ms_ct (ms_ps1 W S o) (n + 1) = ms_ct (ms_ps1 W S o) n + if ms_ps1 W S o n = true then 1 else 0 := rfl
    rw [ct1]
    cases c : ms_ps1 W S o n
    · rw [c, if_neg (by simp)] at up
      rw [ms_i0 (by simp), if_pos rfl, Int.add_zero]
      exact up
    · rw [c, if_pos rfl] at up
      rw [ms_i1 rfl, if_neg (by omega), show ms_ct (ms_ps1 W S o) 99 - (ms_ct (ms_ps1 W S o) n + 1) + 1 = ms_ct (ms_ps1 W S o) 99 - ms_ct (ms_ps1 W S o) n by omega, sd_wid (by omega) (by omega)]
      exact up
theorem sp_sizes : sd_S2 sd_Iv f_X9_sizes f_X10_sizes := iv_q2 (fun M h o w ho hw => by
  have ok := iv_ok h
  have l := ms_lines ok
  have sl := iv_sl h
  obtain ⟨W, w1, w2⟩ := iv_F2 h
  by_cases c : 0 ≤ o ∧ o < M 341 2
  · by_cases d : 0 ≤ w ∧ w ≤ 1
    · obtain ⟨o, rfl⟩ : ∃ k : Nat, o = k := ⟨o.toNat, by omega⟩
      refine ⟨if w = 0 then ms_ct (ms_ps1 W (M 341) o) 99 else ms_ff (ms_ps1 W (M 341) o) (fun i => 10 * ((i : Int) + 1)) (-2) 99, ?_, fun N hN q => ?_⟩
      · unfold f_X9_sizes
        rw [iv_isOffer h, if_pos c, Option.bind_some]
        simp only []
        rw [if_neg (by omega), if_neg (by omega), if_pos (by omega)]
        exact cl_sizes_l h w1 c.2 w 99 0 4000 M (by omega) (by omega) cl_qf_rf
      · have e : N 341 = M 341 := cl_qf_hi q (by omega)
        have e31 : N 331 = M 331 := cl_qf_hi q (by omega)
        unfold f_X10_sizes
        rw [rf_isOffer, e, if_pos c, Option.bind_some]
        simp only []
        rw [if_neg (by omega), rf_in1 d, Option.bind_some]
        simp only []
        rw [if_neg (by omega), sd_wid (by omega) (by omega), if_pos (by omega), sd_tn4 (by omega), Int.toNat_natCast, e]
        refine ms_t_b rf_keeps (fun _ K hK => ?_)
        rw [e] at hK
        simp only []
        have eK : K 341 = M 341 := by rw [hK.1 341 (by omega), e]
        have hWK : rf_W K (K 331 21) W := by
          rw [hK.1 331 (by omega), e31]
          exact rf_W_kp (rf_W_q w2 q) hK.1
        have z := rf_sizes_l (M0 := K) ok sl.2.2.1 hK.2 hWK c.2 w 99 4000 (-2) K (by omega) (by omega) ms_fx_0 (fun i _ _ => by rw [eK]) rf_y_rf
        rw [Int.sub_self] at z
        exact ms_t_w z (fun v L hL => ⟨hL.1, rf_q_tr (rf_q_kp hK.1) (rf_q_y hL.2.2 (hL.2.1.trans eK.symm))⟩)
    · refine ⟨-1, ?_, fun N hN q => ?_⟩
      · unfold f_X9_sizes
        rw [iv_isOffer h, if_pos c, Option.bind_some]
        simp only []
        rw [if_neg (by omega)]
        by_cases g : w < 0
        · rw [if_pos g]
          exact ms_t_r ⟨rfl, cl_qf_rf⟩
        · rw [if_neg g, if_neg (by omega)]
          exact ms_t_r ⟨rfl, cl_qf_rf⟩
      · unfold f_X10_sizes
        rw [rf_isOffer, cl_qf_hi q (show 331 ≤ 341 by omega), if_pos c, Option.bind_some]
        simp only []
        rw [if_neg (by omega), rf_in0 d, Option.bind_some]
        exact ms_t_r ⟨rfl, rf_q_rf⟩
  · refine ⟨-1, ?_, fun N hN q => ?_⟩
    · unfold f_X9_sizes
      rw [iv_isOffer h, if_neg c, Option.bind_some]
      exact ms_t_r ⟨rfl, cl_qf_rf⟩
    · unfold f_X10_sizes
      rw [rf_isOffer, cl_qf_hi q (show 331 ≤ 341 by omega), if_neg c, Option.bind_some]
      exact ms_t_r ⟨rfl, rf_q_rf⟩)
def ms_ps2 (W : (Nat → Int) → Int → Int) (S : Nat → Int) (o : Nat) (i : Nat) : Bool := ms_ac S (ms_co W (ms_bg (ms_u S (13 + o) (i : Int)))) 31 0
def ms_sd (P : Nat → Bool) : Nat → Int
  | 0 => 0
  | n + 1 => if P n = true then sd_or (ms_sd P n) (sd_shl 1 (n : Int)) else ms_sd P n
theorem cl_standing_l {M0 : sd_M} (h : sd_Iv M0) {W : (Nat → Int) → Int → Int} (hW : cl_W M0 (cl_ra (M0 58 3) (M0 0 4)) W) {o : Nat} (ho : (o : Int) < M0 341 2) : ∀ (m i fu : Nat) (M : sd_M), i + m = 2 → m < fu → cl_qf M0 M → ms_T (f_X9_standing_14 fu (o : Int) (ms_sd (ms_ps2 W (M0 341) o) i) (i : Int) M) (fun r N => r = ms_sd (ms_ps2 W (M0 341) o) 2 ∧ cl_qf M0 N) := by
  have ok := iv_ok h
  have l := ms_lines ok
  intro m
  induction m with
  | zero =>
    intro i fu M hi hf q
    obtain ⟨fu, rfl⟩ : ∃ g, fu = g + 1 := ⟨fu - 1, by omega⟩
    rw [f_X9_standing_14, if_pos (by omega), show i = 2 by omega]
    exact ms_t_r ⟨rfl, q⟩
  | succ m ih =>
    intro i fu M hi hf q
    obtain ⟨fu, rfl⟩ : ∃ g, fu = g + 1 := ⟨fu - 1, by omega⟩
    have hM := cl_qf_iv h q
    have e : M 341 = M0 341 := cl_qf_hi q (by omega)
    have tw := iv_tw hM
    rw [e] at tw
    rw [f_X9_standing_14, if_neg (by omega)]
    refine ms_t_b (cl_begin (M := M) (b := 318) (by omega)) (fun _ N hN => ?_)
    simp only []
    rw [if_pos (by omega), Int.toNat_natCast, cl_rif, Option.bind_some]
    simp only []
    have q2 : cl_qf M0 (sd_s N 320 o (i : Int)) := cl_qf_tr q (cl_qf_tr (cl_qf_fr hN.2) (cl_qf_s (by omega)))
    rw [cl_qf_mi q2 (show 58 ≤ 58 ∧ 58 < 316 by omega), q2 0 (by omega) (fun r _ => by omega)]
    have tl := ms_tl_13 ok.1 (o := o) (by omega) (v := (i : Int)) (by omega)
    have bk : cl_bk (sd_s N 320 o (i : Int)) 318 (ms_bg (ms_u (M0 341) (13 + o) (i : Int))) := by
      refine cl_bgk tl hN.1 (by rw [tw.1.2, ms_u_ne (by omega)]) (sd_s_a (by omega)) (sd_s_a (by omega)) (sd_s_a (by omega)) (sd_s_a (by omega)) (fun f hf => ?_)
      rw [ms_u_ne (by omega)] at hf
      have w1 := hN.1.2 f (by omega)
      have w2 := tw.2 f hf
      rw [sd_s_a (show (318 + 1 : Nat) ≠ 320 by omega), w1.1, w2.1, ms_u_ne (show 4 + f ≠ 13 + o by omega)]
      refine ⟨rfl, ?_⟩
      by_cases c : f = o
      · rw [c, show (318 + 2 : Nat) = 320 from rfl, sd_s_at, ms_u_at]
      · rw [show (318 + 2 : Nat) = 320 from rfl, sd_s_j c, ms_u_ne (by omega), ← w2.2]
        exact w1.2.1
    refine ms_t_b (cl_goes h (ms_bg_ok tl) (ms_bg_0 tl.2.1.2 (by omega) (by omega) (by omega)) (fun j hj => by rw [ms_bg_lo (by omega), ms_u_ne (by omega)]) hW q2 bk) (fun v K hK => ?_)
    simp only [f_X9_standing_60]
    rw [sd_wid (z := (i : Int) + 1) (by omega) (by omega), hK.1]
    have up := ih (i + 1) fu K (by omega) (by omega) hK.2
    rw [ms_sd] at up
    push_cast at up
    have pe : ms_ac (M0 341) (ms_co W (ms_bg (ms_u (M0 341) (13 + o) (i : Int)))) 31 0 = ms_ps2 W (M0 341) o i := rfl
    rw [pe]
    cases c : ms_ps2 W (M0 341) o i
    · rw [c, if_neg (by simp)] at up
      rw [ms_i0 (by simp), if_pos rfl]
      exact up
    · rw [c, if_pos rfl] at up
      rw [ms_i1 rfl, if_neg (by omega)]
      exact up
theorem rf_standing_l {M0 : sd_M} {S : Nat → Int} (ok : ms_ok S) (no : 0 ≤ S 127 ∧ S 127 ≤ 10) (kp : rf_kp M0 S) {W : (Nat → Int) → Int → Int} (hW : rf_W M0 (M0 331 21) W) {o : Nat} (ho : (o : Int) < S 2) : ∀ (m i fu : Nat) (M : sd_M), i + m = 2 → m < fu → ms_ox S (M 341) (13 + o) → rf_y M0 M → ms_T (f_X10_standing_29 f_X10_standing_67 fu (o : Int) (S (13 + o)) (ms_sd (ms_ps2 W S o) i) (i : Int) M) (fun r N => r = ms_sd (ms_ps2 W S o) 2 ∧ N 341 = S ∧ rf_y M0 N) := by
  have l := ms_lines ok
  intro m
  induction m with
  | zero =>
    intro i fu M hi hf ox y
    obtain ⟨fu, rfl⟩ : ∃ g, fu = g + 1 := ⟨fu - 1, by omega⟩
    rw [f_X10_standing_29, if_pos (by omega), f_X10_standing_67, sd_wid (z := 13 + (o : Int)) (by omega) (by omega), if_pos (by omega), show (13 + (o : Int)).toNat = 13 + o by omega, show i = 2 by omega]
    have r41 : sd_s M 341 (13 + o) (S (13 + o)) 341 = ms_u (M 341) (13 + o) (S (13 + o)) := sd_s_row
    have y2 : rf_y M0 (sd_s M 341 (13 + o) (S (13 + o))) := rf_y_tr y (rf_y_s (by omega))
    refine ms_t_b (rf_laysBack (M := sd_s M 341 (13 + o) (S (13 + o))) (S := S) (rf_kp_y kp y2) (fun j hj => ?_)) (fun _ N hN => ms_t_r ⟨rfl, hN.1, rf_y_tr y2 (rf_y_41 hN.2)⟩)
    rw [r41]
    by_cases c : j = 13 + o
    · rw [c, ms_u_at]
    · rw [ms_u_ne c, ox j hj c]
  | succ m ih =>
    intro i fu M hi hf ox y
    obtain ⟨fu, rfl⟩ : ∃ g, fu = g + 1 := ⟨fu - 1, by omega⟩
    have tl := ms_tl_13 ok.1 (o := o) (by omega) (v := (i : Int)) (by omega)
    rw [f_X10_standing_29, if_neg (by omega), sd_wid (z := 13 + (o : Int)) (by omega) (by omega), if_pos (by omega), show (13 + (o : Int)).toNat = 13 + o by omega]
    refine ms_t_b (rf_aox no hW (by omega) ox y tl) (fun v N hN => ?_)
    simp only [f_X10_standing_61]
    rw [sd_wid (z := (i : Int) + 1) (by omega) (by omega), hN.1]
    have pe : ms_ac S (ms_co W (ms_bg (ms_u S (13 + o) (i : Int)))) 31 0 = ms_ps2 W S o i := rfl
    rw [pe]
    have up := ih (i + 1) fu N (by omega) (by omega) hN.2.1 hN.2.2
    rw [ms_sd] at up
    push_cast at up
    cases c : ms_ps2 W S o i
    · rw [c, if_neg (by simp)] at up
      rw [ms_i0 (by simp), if_pos rfl]
      exact up
    · rw [c, if_pos rfl] at up
      rw [ms_i1 rfl, if_neg (by omega)]
      exact up
theorem sp_standing : sd_S1 sd_Iv f_X9_standing f_X10_standing := iv_q1 (fun M h o ho => by
  have ok := iv_ok h
  have l := ms_lines ok
  have sl := iv_sl h
  obtain ⟨W, w1, w2⟩ := iv_F2 h
  by_cases c : 0 ≤ o ∧ o < M 341 2
  · obtain ⟨o, rfl⟩ : ∃ k : Nat, o = k := ⟨o.toNat, by omega⟩
    refine ⟨ms_sd (ms_ps2 W (M 341) o) 2, ?_, fun N hN q => ?_⟩
    · unfold f_X9_standing
      rw [iv_isOffer h, if_pos c, Option.bind_some]
      simp only []
      rw [if_neg (by omega)]
      exact cl_standing_l h w1 c.2 2 0 4000 M (by omega) (by omega) cl_qf_rf
    · have e : N 341 = M 341 := cl_qf_hi q (by omega)
      have e31 : N 331 = M 331 := cl_qf_hi q (by omega)
      unfold f_X10_standing
      rw [rf_isOffer, e, if_pos c, Option.bind_some]
      simp only []
      rw [if_neg (by omega), sd_wid (by omega) (by omega), if_pos (by omega), sd_tn13 (by omega), Int.toNat_natCast, e]
      refine ms_t_b rf_keeps (fun _ K hK => ?_)
      rw [e] at hK
      simp only []
      have eK : K 341 = M 341 := by rw [hK.1 341 (by omega), e]
      have hWK : rf_W K (K 331 21) W := by
        rw [hK.1 331 (by omega), e31]
        exact rf_W_kp (rf_W_q w2 q) hK.1
      have z := rf_standing_l (M0 := K) ok sl.2.2.1 hK.2 hWK c.2 2 0 4000 K (by omega) (by omega) (fun i _ _ => by rw [eK]) rf_y_rf
      exact ms_t_w z (fun v L hL => ⟨hL.1, rf_q_tr (rf_q_kp hK.1) (rf_q_y hL.2.2 (hL.2.1.trans eK.symm))⟩)
  · refine ⟨-1, ?_, fun N hN q => ?_⟩
    · unfold f_X9_standing
      rw [iv_isOffer h, if_neg c, Option.bind_some]
      exact ms_t_r ⟨rfl, cl_qf_rf⟩
    · unfold f_X10_standing
      rw [rf_isOffer, cl_qf_hi q (show 331 ≤ 341 by omega), if_neg c, Option.bind_some]
      exact ms_t_r ⟨rfl, rf_q_rf⟩)
