/-! rows: taken one behind the other; the best one -/
theorem ms_rw2_d {S : Nat → Int} {n : Nat} : ∀ (m pl : Nat) (left : Int) (u : Nat → Bool) (R : Nat → Int), pl + m = n → ms_sg2 S n m left u → (∀ j, j < pl → ∃ k, k < n ∧ u k = true ∧ R j = (ms_wt2 S k : Nat)) → (∀ i j, i < j → j < pl → R i ≠ R j) → (∀ j, j < n → ∃ k, k < n ∧ ms_rw2 S n m pl left u R j = (ms_wt2 S k : Nat)) ∧ ∀ i j, i < j → j < n → ms_rw2 S n m pl left u R i ≠ ms_rw2 S n m pl left u R j := by
  intro m
  induction m with
  | zero =>
    intro pl left u R hp g h1 h2
    rw [show pl = n by omega] at h1 h2
    refine ⟨fun j hj => ?_, h2⟩
    obtain ⟨k, a, _, b⟩ := h1 j hj
    exact ⟨k, a, b⟩
  | succ m ih =>
    intro pl left u R hp g h1 h2
    have n4 := g.1
    obtain ⟨q0, k, g2⟩ := ms_sg2_k (by omega) g
    rw [ms_rw2]
    refine ih (pl + 1) _ _ _ (by omega) g2 (fun j hj => ?_) (fun i j hij hj => ?_)
    · by_cases e : j = pl
      · exact ⟨_, k.1, by simp, by rw [e, ms_u_at]⟩
      · obtain ⟨c, c1, c2, c3⟩ := h1 j (by omega)
        exact ⟨c, c1, by simp [c2], by rw [ms_u_ne e, c3]⟩
    · by_cases e : j = pl
      · obtain ⟨c, c1, c2, c3⟩ := h1 i (by omega)
        rw [ms_u_ne (show i ≠ pl by omega), e, ms_u_at, c3]
        intro x
        have w1 := ms_wt2_p (S := S) (k := c) (by omega)
        have w2 := ms_wt2_p (S := S) (k := ms_kf (fun j => !(u j)) (left / ms_fa m) n) (by omega)
        have y : ms_wt2 S c = ms_wt2 S (ms_kf (fun j => !(u j)) (left / ms_fa m) n) := by omega
        rw [y, w2.2.2] at w1
        have z : ms_kf (fun j => !(u j)) (left / ms_fa m) n = c := by omega
        rw [z] at k
        rw [c2] at k
        exact absurd k.2.1 (by simp)
      · rw [ms_u_ne (show i ≠ pl by omega), ms_u_ne e]
        exact h2 i j hij (by omega)
def ms_tq (R : Nat → Int) : Nat → Nat → (Nat → Int) → Nat → Int
  | 0, _, T => T
  | m + 1, pl, T => ms_tq R m (pl + 1) (ms_st (ms_tk T (R pl)))
theorem ms_tq_c {R Q : Nat → Int} : ∀ (m pl : Nat) (T : Nat → Int), (∀ j, pl ≤ j → j < pl + m → R j = Q j) → ms_tq R m pl T = ms_tq Q m pl T
  | 0, _, _, _ => rfl
  | m + 1, pl, T, h => by rw [ms_tq, ms_tq, h pl (by omega) (by omega), ms_tq_c m (pl + 1) _ (fun j x y => h j (by omega) (by omega))]
theorem ms_se_w : ∀ (q : Nat) {S : Nat → Int}, ms_ok S → ∀ f, f < 9 → S (71 + f) = 0 → ms_se q S (71 + f) = 0
  | 0, _, _, _, _, h => h
  | q + 1, S, h, f, hf, h0 => by
    rw [ms_se]
    split
    · rename_i hc
      refine ms_se_w q (ms_go_ok h hc) f hf ?_
      have ln := ms_ln h hc
      rw [ms_go_71 (by omega) hf, if_neg (fun e => by
        rw [← e] at ln
        omega)]
      exact h0
    · exact h0
/-- those that are to be taken yet wait -/
def ms_wy (S T R : Nat → Int) (n pl : Nat) : Prop := ms_ok T ∧ ms_ou S T ∧ (∀ j, pl ≤ j → j < n → (0 ≤ R j ∧ R j < S 2) ∧ T (71 + (R j).toNat) = 0) ∧ ∀ i j, i < j → j < n → R i ≠ R j
theorem ms_wy_s {S T R : Nat → Int} {n pl : Nat} (hp : pl < n) (h : ms_wy S T R n pl) : ((0 ≤ R pl ∧ R pl < T 2) ∧ T (71 + (R pl).toNat) = 0) ∧ ms_ok (ms_tk T (R pl)) ∧ ms_wy S (ms_st (ms_tk T (R pl))) R n (pl + 1) := by
  obtain ⟨h1, h2, h3, h4⟩ := h
  have l := ms_lines h1
  have e2 : T 2 = S 2 := h2 2 (by omega)
  have a := h3 pl (by omega) hp
  have c : (0 ≤ R pl ∧ R pl < T 2) ∧ T (71 + (R pl).toNat) = 0 := by
    rw [e2]
    exact a
  have ok2 := ms_tk_ok h1 c
  have cw := ms_cw_f c.2 (T 2).toNat (by omega)
  have c2 := h1.2.1
  refine ⟨c, ok2, ms_st_ok ok2, ms_ou_tr h2 (ms_ou_tr (ms_ou_tk h1 c) (ms_ou_st ok2)), fun j x y => ?_, h4⟩
  have b := h3 j (by omega) y
  have ne := h4 pl j (by omega) y
  refine ⟨b.1, ms_se_w 9 ok2 _ (by omega) ?_⟩
  rw [ms_tk_e, if_neg (by omega), if_neg (by omega), if_neg (by omega)]
  exact b.2
theorem ms_tq_ok {S R : Nat → Int} {n : Nat} : ∀ (m pl : Nat) (T : Nat → Int), pl + m = n → ms_wy S T R n pl → ms_ok (ms_tq R m pl T) ∧ ms_ou S (ms_tq R m pl T)
  | 0, pl, T, hp, h => ⟨h.1, h.2.1⟩
  | m + 1, pl, T, hp, h => by
    rw [ms_tq]
    exact ms_tq_ok m (pl + 1) _ (by omega) (ms_wy_s (by omega) h).2.2
theorem cl_take_16 {M0 : sd_M} (h : sd_Iv M0) {R : Nat → Int} {n : Nat} (n4 : n ≤ 4) : ∀ (m pl fu : Nat) (T : Nat → Int) (M : sd_M), pl + m = n → m < fu → ms_wy (M0 341) T R n pl → cl_qf M0 M → (∀ j, j < n → M 327 j = R j) → cl_bk M 318 T → ms_T (f_X9_takeRow_16 fu (n : Int) (pl : Int) M) (fun _ N => cl_qf M0 N ∧ cl_bk N 318 (ms_tq R m pl T) ∧ ∀ a, (a < 318 ∨ 326 ≤ a) → N a = M a) := by
  intro m
  induction m with
  | zero =>
    intro pl fu T M hp hf w q r b
    obtain ⟨fu, rfl⟩ : ∃ g, fu = g + 1 := ⟨fu - 1, by omega⟩
    rw [f_X9_takeRow_16, if_pos (by omega)]
    exact ms_t_r ⟨q, b, fun _ _ => rfl⟩
  | succ m ih =>
    intro pl fu T M hp hf w q r b
    obtain ⟨fu, rfl⟩ : ∃ g, fu = g + 1 := ⟨fu - 1, by omega⟩
    obtain ⟨c, ok2, w2⟩ := ms_wy_s (by omega) w
    rw [f_X9_takeRow_16, if_neg (by omega), if_neg (by omega), if_pos (by omega), Int.toNat_natCast, r pl (by omega)]
    refine ms_t_b (cl_takeIn w.1 b c) (fun _ N1 h1 => ?_)
    simp only []
    have tn : cl_tn N1 (ms_tk T (R pl)) := cl_tn_c (iv_tn h) (iv_ok h).1.2.2.1.2 (fun a x y => by rw [h1.2 a (by omega), cl_qf_mi q (by omega)]) (ms_ou_t (ms_ou_tr w.2.1 (ms_ou_tk w.1 c)))
    refine ms_t_b (cl_settle (b := 318) (by omega) ok2 h1.1 tn) (fun _ N2 h2 => ?_)
    simp only []
    have fr : ∀ a, (a < 318 ∨ 326 ≤ a) → N2 a = M a := fun a x => by rw [h2.2.2 a (by omega), h1.2 a (by omega)]
    have up := ih (pl + 1) fu _ N2 (by omega) (by omega) w2 (cl_qf_tr q (cl_qf_tr (cl_qf_fr h1.2) (cl_qf_fr h2.2.2))) (fun j hj => by rw [fr 327 (by omega)]; exact r j hj) h2.2.1
    rw [sd_wid (by omega) (by omega)]
    push_cast at up
    exact ms_t_w up (fun _ N3 h3 => ⟨h3.1, h3.2.1, fun a x => by rw [h3.2.2 a x, fr a x]⟩)
/-! the reference -/
def rf_v (M N : sd_M) : Prop := (∀ a, a ≠ 331 → (a < 339 ∨ 345 ≤ a) → ¬ (347 ≤ a ∧ a < 350) → N a = M a) ∧ ∀ j, j ≠ 18 → ¬ (32 ≤ j ∧ j < 35) → N 331 j = M 331 j
theorem rf_v_rf {M : sd_M} : rf_v M M := ⟨fun _ _ _ _ => rfl, fun _ _ _ => rfl⟩
theorem rf_v_tr {M N K : sd_M} (h : rf_v M N) (g : rf_v N K) : rf_v M K := ⟨fun a x y z => (g.1 a x y z).trans (h.1 a x y z), fun j x y => (g.2 j x y).trans (h.2 j x y)⟩
theorem rf_v_d {M N : sd_M} (h : rf_d M N) : rf_v M N := ⟨fun a x y _ => h.1 a x (by omega) (by omega) (by omega) (by omega) (by omega) (by omega), fun j x _ => h.2 j x⟩
theorem rf_v_s {M : sd_M} {a i : Nat} {v : Int} (h : 347 ≤ a ∧ a < 350 ∨ a = 331 ∧ 32 ≤ i ∧ i < 35) : rf_v M (sd_s M a i v) := ⟨fun b x y z => sd_s_a (by omega), fun j x y => by
  by_cases c : a = 331
  · rw [c, sd_s_j (by omega)]
  · rw [sd_s_a (by omega)]⟩
theorem rf_q_v {M N : sd_M} (h : rf_v M N) (e : N 341 = M 341) : rf_q M N := ⟨fun a ha => by
  have := iv_cx ha
  by_cases c : a = 341
  · rw [c, e]
  · exact h.1 a (by omega) (by omega) (by omega), fun j hj => h.2 j (by omega) (by omega)⟩
theorem rf_try_2 {M0 : sd_M} {S R : Nat → Int} {n : Nat} (n4 : n ≤ 4) (kk : Int → sd_M → Option (Int × sd_M)) (v1 : Int) : ∀ (m pl fu : Nat) (T : Nat → Int) (M : sd_M), pl + m = n → m < fu → ms_wy S T R n pl → M 331 32 = n → (∀ j, j < n → M 348 j = R j) → M 341 = T → rf_d M0 M → ∃ N, rf_d M0 N ∧ N 341 = ms_tq R m pl T ∧ f_X10_triesRow_2 kk fu v1 (pl : Int) M = kk v1 N := by
  intro m
  induction m with
  | zero =>
    intro pl fu T M hp hf w e32 r e y
    obtain ⟨fu, rfl⟩ : ∃ g, fu = g + 1 := ⟨fu - 1, by omega⟩
    refine ⟨M, y, e, ?_⟩
    rw [f_X10_triesRow_2, e32, if_pos (by omega)]
  | succ m ih =>
    intro pl fu T M hp hf w e32 r e y
    obtain ⟨fu, rfl⟩ : ∃ g, fu = g + 1 := ⟨fu - 1, by omega⟩
    obtain ⟨c, ok2, w2⟩ := ms_wy_s (by omega) w
    obtain ⟨_, N1, e1, a1, a2⟩ := rf_takes (M := M) (f := R pl) (by rw [e]; exact w.1) (by rw [e]; exact c)
    rw [e] at a1
    obtain ⟨_, N2, e2, b1, b2⟩ := rf_settlesAll (M := N1) (by rw [a1]; exact ok2)
    rw [a1] at b1
    have d2 : rf_d M N2 := rf_d_tr (rf_d_41 a2) (rf_d_g b2)
    obtain ⟨K, k1, k2, k3⟩ := ih (pl + 1) fu _ N2 (by omega) (by omega) w2 (by rw [d2.2 32 (by omega)]; exact e32) (fun j hj => by rw [d2.1 348 (by omega) (by omega) (by omega) (by omega) (by omega) (by omega) (by omega)]; exact r j hj) b1 (rf_d_tr y d2)
    refine ⟨K, k1, k2, ?_⟩
    push_cast at k3
    rw [f_X10_triesRow_2, e32, if_neg (by omega), if_pos (by omega), Int.toNat_natCast, r pl (by omega), e1, Option.bind_some]
    simp only []
    rw [e2, Option.bind_some]
    simp only []
    rw [sd_wid (by omega) (by omega)]
    exact k3
theorem rf_try_89 {M0 : sd_M} {n : Nat} (n4 : n ≤ 4) (e32 : M0 331 32 = n) : ∀ (m k fu : Nat) (M : sd_M), k + m = n → m < fu → (∀ a, a ≠ 349 → M a = M0 a) → (∀ j, j < k → M 349 j = M0 348 j) → ms_T (f_X10_triesRow_89 fu (k : Int) M) (fun _ N => (∀ a, a ≠ 349 → N a = M0 a) ∧ ∀ j, j < n → N 349 j = M0 348 j) := by
  intro m
  induction m with
  | zero =>
    intro k fu M hk hf h1 h2
    obtain ⟨fu, rfl⟩ : ∃ g, fu = g + 1 := ⟨fu - 1, by omega⟩
    rw [f_X10_triesRow_89, h1 331 (by omega), e32, if_pos (by omega)]
    exact ms_t_r ⟨h1, fun j hj => h2 j (by omega)⟩
  | succ m ih =>
    intro k fu M hk hf h1 h2
    obtain ⟨fu, rfl⟩ : ∃ g, fu = g + 1 := ⟨fu - 1, by omega⟩
    have up := ih (k + 1) fu (sd_s M 349 k (M 348 k)) (by omega) (by omega) (fun a x => by rw [sd_s_a x, h1 a x]) (fun j hj => by
      by_cases e : j = k
      · subst e
        rw [sd_s_at, h1 348 (by omega)]
      · rw [sd_s_j e]
        exact h2 j (by omega))
    push_cast at up
    rw [f_X10_triesRow_89, h1 331 (by omega), e32, if_neg (by omega), if_pos (by omega), if_pos (by omega), sd_wid (by omega) (by omega), Int.toNat_natCast]
    exact up
/-- the rows, one by one; the best so far -/
def ms_ri (S : Nat → Int) (n i : Nat) : Nat → Int := ms_rw2 S n n 0 (i : Int) (fun _ => false) (fun _ => 0)
def ms_ti (S : Nat → Int) (n i : Nat) : Nat → Int := ms_tq (ms_ri S n i) n 0 S
def ms_bw (S : Nat → Int) (n : Nat) : Nat → Int × Int × (Nat → Int)
  | 0 => (0, 0, fun _ => 0)
  | i + 1 => if i = 0 ∨ (ms_sh (ms_ti S n i) < (ms_bw S n i).1 ∨ (ms_sh (ms_ti S n i) = (ms_bw S n i).1 ∧ (ms_bw S n i).2.1 < ms_ti S n i 60)) then (ms_sh (ms_ti S n i), ms_ti S n i 60, ms_ri S n i) else ms_bw S n i
/-- how many are taken -/
def ms_nw (S : Nat → Int) : Nat := if ms_ct (ms_at S 0) 9 < 4 then (ms_ct (ms_at S 0) 9).toNat else 4
theorem ms_nw_b {S : Nat → Int} : ms_nw S ≤ 4 ∧ (ms_nw S : Int) ≤ ms_ct (ms_at S 0) 9 := by
  have cb := ms_ct_b (p := ms_at S 0) 9
  unfold ms_nw
  split <;> omega
theorem ms_ct_a : ∀ n, ms_ct (fun _ => !false) n = (n : Int)
  | 0 => rfl
  | n + 1 => by
    rw [ms_ct, ms_ct_a n]
    simp
theorem ms_sg2_0 {S : Nat → Int} {i : Nat} (h : (i : Int) < ms_fa (ms_nw S)) : ms_sg2 S (ms_nw S) (ms_nw S) (i : Int) (fun _ => false) := ⟨ms_nw_b, ms_ct_a _, fun _ _ => rfl, by omega, h⟩
theorem ms_wy_0 {S : Nat → Int} (ok : ms_ok S) {i : Nat} (h : (i : Int) < ms_fa (ms_nw S)) : ms_wy S S (ms_ri S (ms_nw S) i) (ms_nw S) 0 := by
  have nb := ms_nw_b (S := S)
  have d := ms_rw2_d (S := S) (ms_nw S) 0 (i : Int) (fun _ => false) (fun _ => 0) (by omega) (ms_sg2_0 h) (fun j hj => by omega) (fun i j _ hj => by omega)
  refine ⟨ok, ms_ou_rf, fun j _ hj => ?_, d.2⟩
  obtain ⟨k, k1, k2⟩ := d.1 j hj
  have w := ms_wt2_p (S := S) (k := k) (by omega)
  have e : ms_ri S (ms_nw S) i j = (ms_wt2 S k : Nat) := k2
  have a : ((ms_wt2 S k : Nat) : Int) < S 2 ∧ S (71 + ms_wt2 S k) = 0 := by
    have := w.2.1
    simpa [ms_at] using this
  rw [e, Int.toNat_natCast]
  exact ⟨by omega, a.2⟩
theorem ms_fa24 {n : Nat} (h : n ≤ 4) : 1 ≤ ms_fa n ∧ ms_fa n ≤ 24 := by
  have : n = 0 ∨ n = 1 ∨ n = 2 ∨ n = 3 ∨ n = 4 := by omega
  rcases this with h | h | h | h | h <;> subst h <;> exact ⟨by decide, by decide⟩
theorem cl_rows_85 {M0 : sd_M} (h : sd_Iv M0) (w : Int) : ∀ (m i fu : Nat) (M : sd_M), (i : Int) + m = ms_fa (ms_nw (M0 341)) → m < fu → cl_qf M0 M → (0 < i → ∀ j, j < ms_nw (M0 341) → M 328 j = (ms_bw (M0 341) (ms_nw (M0 341)) i).2.2 j) → ∃ K, (∀ j, j < ms_nw (M0 341) → K 328 j = (ms_bw (M0 341) (ms_nw (M0 341)) (ms_fa (ms_nw (M0 341))).toNat).2.2 j) ∧ f_X9_rows_85 f_X9_rows_194 fu w ((ms_nw (M0 341) : Nat) : Int) (ms_fa (ms_nw (M0 341))) (ms_bw (M0 341) (ms_nw (M0 341)) i).1 (ms_bw (M0 341) (ms_nw (M0 341)) i).2.1 (i : Int) M = f_X9_rows_194 w ((ms_nw (M0 341) : Nat) : Int) (ms_bw (M0 341) (ms_nw (M0 341)) (ms_fa (ms_nw (M0 341))).toNat).1 (ms_bw (M0 341) (ms_nw (M0 341)) (ms_fa (ms_nw (M0 341))).toNat).2.1 K ∧ cl_qf M0 K := by
  have ok := iv_ok h
  have nb := ms_nw_b (S := M0 341)
  have fb := ms_fa24 nb.1
  intro m
  induction m with
  | zero =>
    intro i fu M hi hf q r
    obtain ⟨fu, rfl⟩ : ∃ g, fu = g + 1 := ⟨fu - 1, by omega⟩
    refine ⟨M, ?_, ?_, q⟩
    · rw [show (ms_fa (ms_nw (M0 341))).toNat = i by omega]
      exact r (by omega)
    · rw [f_X9_rows_85, if_pos (by omega), show (ms_fa (ms_nw (M0 341))).toNat = i by omega]
  | succ m ih =>
    intro i fu M hi hf q r
    obtain ⟨fu, rfl⟩ : ∃ g, fu = g + 1 := ⟨fu - 1, by omega⟩
    have li : (i : Int) < ms_fa (ms_nw (M0 341)) := by omega
    have hM := cl_qf_iv h q
    have e : M 341 = M0 341 := cl_qf_hi q (by omega)
    have bk := iv_bk hM
    have tn := iv_tn hM
    rw [e] at bk tn
    have wy := ms_wy_0 ok li
    have u0 : ms_bt (ms_fs2 (M0 341) (fun _ => false)) 9 = ms_on (M0 341) 0 := ms_bt_c 9 (fun i _ => by simp [ms_fs2])
    obtain ⟨x1, N1, e1, a1, a2⟩ := cl_lay_28 (M0 := M) (S := M0 341) (n := ms_nw (M0 341)) (ms_nw (M0 341)) 0 4000 (i : Int) (fun _ => false) M (by omega) (by omega) (ms_sg2_0 li) (fun _ _ => rfl)
    rw [u0] at e1
    have e1' : f_X9_layRow (i : Int) ((ms_nw (M0 341) : Nat) : Int) M = some (x1, N1) := by
      unfold f_X9_layRow
      rw [tn.1.1, cl_bits ok bk.1, Option.bind_some]
      exact e1
    have r327 : ∀ j, j < ms_nw (M0 341) → N1 327 j = ms_ri (M0 341) (ms_nw (M0 341)) i j := fun j hj => by
      rw [a1]
      exact ms_rw2_e (ms_nw (M0 341)) 0 (i : Int) (fun _ => false) (M 327) (fun _ => 0) (fun j hj => by omega) j (by omega)
    have q1 : cl_qf M0 N1 := cl_qf_tr q (fun a x _ => a2 a (by omega))
    obtain ⟨N2, e2, b2, f2⟩ := cl_copy_k (M := N1) (b := 318) (o := 66) (by omega) ok (cl_bk_c ok bk (fun _ _ => rfl) (fun a x y => a2 a (by omega)))
    obtain ⟨x3, N3, e3, q3, b3, f3⟩ := cl_take_16 h nb.1 (ms_nw (M0 341)) 0 4000 (M0 341) N2 (by omega) (by omega) wy (cl_qf_tr q1 (cl_qf_fr f2)) (fun j hj => by rw [f2 327 (by omega)]; exact r327 j hj) b2
    have e3' : f_X9_takeRow ((ms_nw (M0 341) : Nat) : Int) N1 = some (x3, N3) := by
      unfold f_X9_takeRow
      rw [e2, Option.bind_some]
      exact e3
    have b3' : cl_bk N3 318 (ms_ti (M0 341) (ms_nw (M0 341)) i) := b3
    have tok : ms_ok (ms_ti (M0 341) (ms_nw (M0 341)) i) := (ms_tq_ok (ms_nw (M0 341)) 0 (M0 341) (by omega) wy).1
    have lk : f_X0_lacking 318 N3 = some (ms_sh (ms_ti (M0 341) (ms_nw (M0 341)) i), N3) := cl_lack tok b3'.1.1.1 b3'.2.1
    have l60 : N3 318 3 = (ms_ti (M0 341) (ms_nw (M0 341)) i) 60 := b3'.1.1.2.2.1
    have bw1 : ms_bw (M0 341) (ms_nw (M0 341)) (i + 1) = if i = 0 ∨ (ms_sh (ms_ti (M0 341) (ms_nw (M0 341)) i) < (ms_bw (M0 341) (ms_nw (M0 341)) i).1 ∨ (ms_sh (ms_ti (M0 341) (ms_nw (M0 341)) i) = (ms_bw (M0 341) (ms_nw (M0 341)) i).1 ∧ (ms_bw (M0 341) (ms_nw (M0 341)) i).2.1 < (ms_ti (M0 341) (ms_nw (M0 341)) i) 60)) then (ms_sh (ms_ti (M0 341) (ms_nw (M0 341)) i), (ms_ti (M0 341) (ms_nw (M0 341)) i) 60, ms_ri (M0 341) (ms_nw (M0 341)) i) else ms_bw (M0 341) (ms_nw (M0 341)) i := rfl
    have yes : (i = 0 ∨ (ms_sh (ms_ti (M0 341) (ms_nw (M0 341)) i) < (ms_bw (M0 341) (ms_nw (M0 341)) i).1 ∨ (ms_sh (ms_ti (M0 341) (ms_nw (M0 341)) i) = (ms_bw (M0 341) (ms_nw (M0 341)) i).1 ∧ (ms_bw (M0 341) (ms_nw (M0 341)) i).2.1 < (ms_ti (M0 341) (ms_nw (M0 341)) i) 60))) → ∃ K, (∀ j, j < ms_nw (M0 341) → K 328 j = (ms_bw (M0 341) (ms_nw (M0 341)) (ms_fa (ms_nw (M0 341))).toNat).2.2 j) ∧ f_X9_rows_156 (f_X9_rows_85 f_X9_rows_194 fu) f_X9_rows_194 w ((ms_nw (M0 341) : Nat) : Int) (ms_fa (ms_nw (M0 341))) (i : Int) N3 = f_X9_rows_194 w ((ms_nw (M0 341) : Nat) : Int) (ms_bw (M0 341) (ms_nw (M0 341)) (ms_fa (ms_nw (M0 341))).toNat).1 (ms_bw (M0 341) (ms_nw (M0 341)) (ms_fa (ms_nw (M0 341))).toNat).2.1 K ∧ cl_qf M0 K := fun z => by
      rw [if_pos z] at bw1
      have qc : cl_qf M0 (sd_cp N3 327 328 4) := cl_qf_tr q3 (fun a x _ => sd_cp_n (by omega))
      obtain ⟨K, k1, k2, k3⟩ := ih (i + 1) fu (sd_cp N3 327 328 4) (by push_cast; omega) (by omega) qc (fun _ j hj => by
        rw [sd_cp_at (by omega), f3 327 (by omega), f2 327 (by omega), bw1]
        exact r327 j hj)
      refine ⟨K, k1, ?_, k3⟩
      rw [bw1] at k2
      push_cast at k2
      rw [f_X9_rows_156, lk, Option.bind_some]
      simp only [f_X9_rows_188]
      rw [l60, sd_wid (z := (i : Int) + 1) (by omega) (by omega)]
      exact k2
    have no : ¬ (i = 0 ∨ (ms_sh (ms_ti (M0 341) (ms_nw (M0 341)) i) < (ms_bw (M0 341) (ms_nw (M0 341)) i).1 ∨ (ms_sh (ms_ti (M0 341) (ms_nw (M0 341)) i) = (ms_bw (M0 341) (ms_nw (M0 341)) i).1 ∧ (ms_bw (M0 341) (ms_nw (M0 341)) i).2.1 < (ms_ti (M0 341) (ms_nw (M0 341)) i) 60))) → ∃ K, (∀ j, j < ms_nw (M0 341) → K 328 j = (ms_bw (M0 341) (ms_nw (M0 341)) (ms_fa (ms_nw (M0 341))).toNat).2.2 j) ∧ f_X9_rows_188 (f_X9_rows_85 f_X9_rows_194 fu) f_X9_rows_194 w ((ms_nw (M0 341) : Nat) : Int) (ms_fa (ms_nw (M0 341))) (ms_bw (M0 341) (ms_nw (M0 341)) i).1 (ms_bw (M0 341) (ms_nw (M0 341)) i).2.1 (i : Int) N3 = f_X9_rows_194 w ((ms_nw (M0 341) : Nat) : Int) (ms_bw (M0 341) (ms_nw (M0 341)) (ms_fa (ms_nw (M0 341))).toNat).1 (ms_bw (M0 341) (ms_nw (M0 341)) (ms_fa (ms_nw (M0 341))).toNat).2.1 K ∧ cl_qf M0 K := fun z => by
      rw [if_neg z] at bw1
      obtain ⟨K, k1, k2, k3⟩ := ih (i + 1) fu N3 (by push_cast; omega) (by omega) q3 (fun _ j hj => by
        rw [bw1, f3 328 (by omega), f2 328 (by omega), a2 328 (by omega)]
        exact r (by omega) j hj)
      refine ⟨K, k1, ?_, k3⟩
      rw [bw1] at k2
      push_cast at k2
      rw [f_X9_rows_188, sd_wid (z := (i : Int) + 1) (by omega) (by omega)]
      exact k2
    have s85 : f_X9_rows_85 f_X9_rows_194 (fu + 1) w ((ms_nw (M0 341) : Nat) : Int) (ms_fa (ms_nw (M0 341))) (ms_bw (M0 341) (ms_nw (M0 341)) i).1 (ms_bw (M0 341) (ms_nw (M0 341)) i).2.1 (i : Int) M = if ms_sh (ms_ti (M0 341) (ms_nw (M0 341)) i) < (ms_bw (M0 341) (ms_nw (M0 341)) i).1 then f_X9_rows_139 (f_X9_rows_85 f_X9_rows_194 fu) f_X9_rows_194 w ((ms_nw (M0 341) : Nat) : Int) (ms_fa (ms_nw (M0 341))) (ms_bw (M0 341) (ms_nw (M0 341)) i).1 (ms_bw (M0 341) (ms_nw (M0 341)) i).2.1 (i : Int) N3 else if ms_sh (ms_ti (M0 341) (ms_nw (M0 341)) i) = (ms_bw (M0 341) (ms_nw (M0 341)) i).1 then (if (ms_ti (M0 341) (ms_nw (M0 341)) i) 60 ≤ (ms_bw (M0 341) (ms_nw (M0 341)) i).2.1 then f_X9_rows_143 (f_X9_rows_85 f_X9_rows_194 fu) f_X9_rows_194 w ((ms_nw (M0 341) : Nat) : Int) (ms_fa (ms_nw (M0 341))) (ms_bw (M0 341) (ms_nw (M0 341)) i).1 (ms_bw (M0 341) (ms_nw (M0 341)) i).2.1 (i : Int) N3 else f_X9_rows_139 (f_X9_rows_85 f_X9_rows_194 fu) f_X9_rows_194 w ((ms_nw (M0 341) : Nat) : Int) (ms_fa (ms_nw (M0 341))) (ms_bw (M0 341) (ms_nw (M0 341)) i).1 (ms_bw (M0 341) (ms_nw (M0 341)) i).2.1 (i : Int) N3) else f_X9_rows_143 (f_X9_rows_85 f_X9_rows_194 fu) f_X9_rows_194 w ((ms_nw (M0 341) : Nat) : Int) (ms_fa (ms_nw (M0 341))) (ms_bw (M0 341) (ms_nw (M0 341)) i).1 (ms_bw (M0 341) (ms_nw (M0 341)) i).2.1 (i : Int) N3 := by
      rw [f_X9_rows_85, if_neg (by omega), e1', Option.bind_some]
      simp only []
      rw [e3', Option.bind_some]
      simp only []
      rw [lk, Option.bind_some]
      simp only []
      rw [lk, Option.bind_some]
      simp only []
      rw [l60]
    rw [s85]
    simp only [f_X9_rows_139, f_X9_rows_143, f_X9_rows_144]
    by_cases i0 : i = 0
    · have g := yes (Or.inl i0)
      have i0' : (i : Int) = 0 := by omega
      simp only [i0', if_true, ite_self] at g ⊢
      exact g
    · have i0' : ¬ (i : Int) = 0 := by omega
      rw [if_neg i0', if_neg i0', if_neg (show ¬ (1 : Int) = 0 by omega)]
      simp only [if_true]
      by_cases c1 : ms_sh (ms_ti (M0 341) (ms_nw (M0 341)) i) < (ms_bw (M0 341) (ms_nw (M0 341)) i).1
      · rw [if_pos c1]
        exact yes (Or.inr (Or.inl c1))
      · rw [if_neg c1]
        by_cases c2 : ms_sh (ms_ti (M0 341) (ms_nw (M0 341)) i) = (ms_bw (M0 341) (ms_nw (M0 341)) i).1
        · rw [if_pos c2]
          by_cases c3 : (ms_ti (M0 341) (ms_nw (M0 341)) i) 60 ≤ (ms_bw (M0 341) (ms_nw (M0 341)) i).2.1
          · rw [if_pos c3]
            exact no (fun z => by omega)
          · rw [if_neg c3]
            exact yes (Or.inr (Or.inr ⟨c2, by omega⟩))
        · rw [if_neg c2]
          exact no (fun z => by omega)
