/-! pence, parted by what is signed -/
theorem ms_59 {S : Nat → Int} (h : ms_ok S) (h1 : 1 ≤ S 60) : 1 ≤ S 59 := by
  have l := ms_lines h
  have a := h.1.1
  have b := h.1.2.2.2.2.2.1
  have c := h.2.2.1.2
  rcases a with a | a
  · have := b a
    omega
  · exact c a
theorem ms_sz_sk {S : Nat → Int} (h : ms_ok S) {much : Int} (hm : 0 ≤ much ∧ much ≤ 9999) : ms_sz much (ms_sk S) (S 60).toNat := by
  have l := ms_lines h
  refine ⟨⟨by omega, hm.1, hm.2⟩, fun k hk => ?_⟩
  have a := ms_sk_b h (k := k) (by omega)
  have b := ms_line h (k := k) (by omega)
  omega
theorem ms_ss {S : Nat → Int} (h : ms_ok S) (h1 : 1 ≤ S 60) : 0 < ms_sum (ms_sk S) (S 60).toNat := by
  obtain ⟨k, hk, e⟩ := ms_sk_x h h1 (ms_59 h h1)
  have := ms_sum_k (w := ms_sk S) (n := (S 60).toNat) (k := k) (fun j hj => (ms_sk_b h (k := j) (by omega)).1) (by omega)
  omega
theorem cl_ln_s {M : sd_M} {b : Nat} {S : Nat → Int} (h : ms_ok S) (hb : cl_bs M b S) : cl_ln M b (S 60).toNat := by
  have l := ms_lines h
  refine ⟨⟨by omega, by rw [hb.1.2.2.1]; omega⟩, fun k hk => ?_, fun j k hj hk e => ?_⟩
  · have a := ms_line h (k := k) (by omega)
    rw [hb.2.2.2.1 k (by omega)]
    omega
  · rw [hb.2.2.2.1 k (by omega), hb.2.2.2.1 j (by omega)] at e
    exact h.2.2.2.2.2.2.1 j k (by omega) (by omega) e
theorem cl_pence {M : sd_M} {S : Nat → Int} (h : ms_ok S) (hb : cl_bk M 66 S) (h1 : 1 ≤ S 60) {much : Int} (hm : 0 ≤ much ∧ much ≤ 9999) : ms_T (f_X0_partPence 66 326 much M) (fun _ N => (∀ k : Nat, (k : Int) < S 60 → N 326 (S (89 + k)).toNat = ms_pt much (ms_sk S) (S 60).toNat k) ∧ ∀ a, a ≠ 326 → N a = M a) := by
  have l := ms_lines h
  have e6 : ∀ k : Nat, (k : Int) < S 60 → M (66 + 6) k = S (89 + k) := hb.1.2.2.2.1
  have on : ∀ k : Nat, (k : Int) < S 60 → ms_at S 1 (S (89 + k)).toNat = true := fun k hk => by
    have a := ms_ln h hk
    have : ((S (89 + k)).toNat : Int) < S 2 := by omega
    exact ms_at_t this a.2
  have sg : ∀ k : Nat, (k : Int) < S 60 → M 70 (S (89 + k)).toNat = ms_sk S k := fun k hk => by
    have a := ms_ln h hk
    have s : M 70 (S (89 + k)).toNat = ms_sg S ((S (89 + k)).toNat : Int) := hb.2.2 (S (89 + k)).toNat (by omega)
    rw [s, Int.toNat_of_nonneg a.1.1]
    unfold ms_sg
    rw [if_pos a, ms_po_e h hk rfl]
  have wt : ∀ k, k < (S 60).toNat → cl_wt M 66 70 (ms_at S 1) k = ms_sk S k := fun k hk => by
    unfold cl_wt
    rw [e6 k (by omega), if_pos (on k (by omega)), sg k (by omega)]
  have z := ms_sz_sk h hm
  have z2 : ms_sz much (cl_wt M 66 70 (ms_at S 1)) (S 60).toNat := ⟨z.1, fun k hk => by rw [wt k hk]; exact z.2 k hk⟩
  have s2 : ms_sum (cl_wt M 66 70 (ms_at S 1)) (S 60).toNat = ms_sum (ms_sk S) (S 60).toNat := ms_sum_c _ wt
  have p := cl_part (M := M) (b := 66) (c := 70) (d := 326) (q := ms_at S 1) (cl_ln_s h hb.1) z2 (fun k hk => by
    have a := z.2 k hk
    rw [e6 k (by omega), sg k (by omega)]
    exact a) (by omega)
  unfold f_X0_partPence
  rw [cl_lineBits h hb.1, Option.bind_some]
  refine ms_t_b p (fun r N hN => ms_t_r ⟨fun k hk => ?_, hN.1⟩)
  have x := hN.2.2 (by rw [s2]; exact ms_ss h h1) k (by omega)
  rw [e6 k hk] at x
  exact (x (on k hk)).trans (ms_pt_c wt (by omega))
theorem rf_pbs_l {M0 : sd_M} {n : Nat} (hn : n ≤ 9) (h60 : M0 341 60 = n) (kk : Int → sd_M → Option (Int × sd_M)) (much : Int) : ∀ (m k fu : Nat) (M : sd_M), k + m = n → m < fu → (∀ a, a ≠ 342 → M a = M0 a) → (∀ j, j < k → M 342 j = M0 344 j) → ∃ N, (∀ a, a ≠ 342 → N a = M0 a) ∧ (∀ j, j < n → N 342 j = M0 344 j) ∧ f_X10_partsBySigned_6 kk fu much (k : Int) M = kk much N := by
  intro m
  induction m with
  | zero =>
    intro k fu M hk hf h1 h2
    obtain ⟨fu, rfl⟩ : ∃ g, fu = g + 1 := ⟨fu - 1, by omega⟩
    refine ⟨M, h1, fun j hj => h2 j (by omega), ?_⟩
    rw [f_X10_partsBySigned_6, h1 341 (by omega), if_pos (by omega)]
  | succ m ih =>
    intro k fu M hk hf h1 h2
    obtain ⟨fu, rfl⟩ : ∃ g, fu = g + 1 := ⟨fu - 1, by omega⟩
    obtain ⟨N, n1, n2, n3⟩ := ih (k + 1) fu (sd_s M 342 k (M 344 k)) (by omega) (by omega) (fun a x => by rw [sd_s_a x, h1 a x]) (fun j hj => by
      by_cases e : j = k
      · subst e
        rw [sd_s_at, h1 344 (by omega)]
      · rw [sd_s_j e]
        exact h2 j (by omega))
    refine ⟨N, n1, n2, ?_⟩
    push_cast at n3
    rw [f_X10_partsBySigned_6, h1 341 (by omega), if_neg (by omega), if_pos (by omega), if_pos (by omega), sd_wid (by omega) (by omega), Int.toNat_natCast]
    exact n3
theorem rf_pbs {M : sd_M} (h : ms_ok (M 341)) {much : Int} (hm : 0 ≤ much ∧ much ≤ 9999) : ms_T (f_X10_partsBySigned much M) (fun _ N => rf_f M N ∧ ∀ k : Nat, (k : Int) < M 341 60 → N 343 k = ms_pt much (ms_sk (M 341)) (M 341 60).toNat k) := by
  have l := ms_lines h
  unfold f_X10_partsBySigned
  refine ms_t_b (rf_signs h) (fun r N hN => ?_)
  simp only []
  have e := rf_f_41 hN.1
  obtain ⟨K, k1, k2, k3⟩ := rf_pbs_l (M0 := N) (n := (M 341 60).toNat) (by omega) (by rw [e]; omega) f_X10_partsBySigned_35 much (M 341 60).toNat 0 4000 N (by omega) (by omega) (fun _ _ => rfl) (fun j hj => absurd hj (by omega))
  have k3' : f_X10_partsBySigned_6 f_X10_partsBySigned_35 4000 much 0 N = _ := k3
  rw [k3']
  unfold f_X10_partsBySigned_35
  have wk : ∀ j, j < (M 341 60).toNat → K 342 j = ms_sk (M 341) j := fun j hj => by rw [k2 j hj, hN.2 j (by omega)]
  have z := ms_sz_sk h hm
  have eK : K 341 = M 341 := by rw [k1 341 (by omega), e]
  have p := rf_parts (M := K) (n := (M 341 60).toNat) (much := much) (by rw [eK]; omega) ⟨z.1, fun j hj => by rw [wk j hj]; exact z.2 j hj⟩
  refine ms_t_b p (fun r2 Z hZ => ms_t_r ⟨?_, fun k hk => ?_⟩)
  · intro a x y w
    exact (hZ.1 a y).trans ((k1 a x).trans (hN.1 a x y w))
  · exact (hZ.2 k (by omega)).trans (ms_pt_c wk (by omega))
theorem sp_pence : sd_S2 sd_Iv f_X9_pence f_X10_pence := iv_q2 (fun M h much f hm hf => by
  have ok := iv_ok h
  have l := ms_lines ok
  have bk := iv_bk h
  by_cases c : (0 ≤ f ∧ f < M 341 2) ∧ M 341 (71 + f.toNat) = 1
  · by_cases d : 0 ≤ much ∧ much ≤ 9999
    · have p := ms_po_l ok c
      refine ⟨ms_pt much (ms_sk (M 341)) (M 341 60).toNat (ms_po (M 341) f), ?_, fun N hN q => ?_⟩
      · unfold f_X9_pence
        rw [if_neg (by omega), if_neg (by omega), iv_isLine h, if_pos c, Option.bind_some]
        simp only []
        rw [if_neg (by omega)]
        refine ms_t_b (cl_pence ok bk (by omega) d) (fun _ N hN => ?_)
        simp only []
        rw [if_pos (by omega)]
        have x := hN.1 (ms_po (M 341) f) p.1
        rw [p.2] at x
        exact ms_t_r ⟨x, fun a y _ => hN.2 a (by omega)⟩
      · have e : N 341 = M 341 := cl_qf_hi q (by omega)
        unfold f_X10_pence
        rw [rf_isLine (iv_ok hN), e, if_pos c, Option.bind_some]
        simp only []
        rw [if_neg (by omega), rf_in1 d, Option.bind_some]
        simp only []
        rw [if_neg (by omega)]
        refine ms_t_b (rf_pbs (iv_ok hN) d) (fun _ K hK => ?_)
        simp only []
        have eK : K 341 = M 341 := by rw [rf_f_41 hK.1, e]
        rw [rf_placeOf (M := K) (p := ms_po (M 341) f) (by rw [eK]; exact ok) (by rw [eK]; exact p.1) (by rw [eK]; exact p.2), Option.bind_some]
        simp only []
        rw [if_pos (by omega), Int.toNat_natCast]
        rw [e] at hK
        exact ms_t_r ⟨hK.2 _ p.1, rf_q_f hK.1⟩
    · refine ⟨-1, ?_, fun N hN q => ?_⟩
      · unfold f_X9_pence
        by_cases g : much < 0
        · rw [if_pos g]
          exact ms_t_r ⟨rfl, cl_qf_rf⟩
        · rw [if_neg g, if_pos (by omega)]
          exact ms_t_r ⟨rfl, cl_qf_rf⟩
      · unfold f_X10_pence
        rw [rf_isLine (iv_ok hN), cl_qf_hi q (show 331 ≤ 341 by omega), if_pos c, Option.bind_some]
        simp only []
        rw [if_neg (by omega), rf_in0 d, Option.bind_some]
        exact ms_t_r ⟨rfl, rf_q_rf⟩
  · refine ⟨-1, ?_, fun N hN q => ?_⟩
    · unfold f_X9_pence
      by_cases g : much < 0
      · rw [if_pos g]
        exact ms_t_r ⟨rfl, cl_qf_rf⟩
      · rw [if_neg g]
        by_cases g2 : 9999 < much
        · rw [if_pos g2]
          exact ms_t_r ⟨rfl, cl_qf_rf⟩
        · rw [if_neg g2, iv_isLine h, if_neg c, Option.bind_some]
          exact ms_t_r ⟨rfl, cl_qf_rf⟩
    · unfold f_X10_pence
      rw [rf_isLine (iv_ok hN), cl_qf_hi q (show 331 ≤ 341 by omega), if_neg c, Option.bind_some]
      exact ms_t_r ⟨rfl, rf_q_rf⟩)
