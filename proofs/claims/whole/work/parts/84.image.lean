/-! images; bytes fed -/
theorem cl_tcopy {M : sd_M} {t o : Nat} (hd : t + 7 ≤ o ∨ o + 7 ≤ t) (h0 : M o 0 = 0 ∨ M o 0 = 1) : ∃ N, f_X8_copyFrom t o M = some (0, N) ∧ (N t 0 = M o 0 ∧ N t 1 = M o 1 ∧ N t 2 = M o 2 ∧ N t 6 = M o 6) ∧ (∀ j, j < 9 → N (t + 1) j = M (o + 1) j ∧ N (t + 2) j = M (o + 2) j ∧ N (t + 3) j = M (o + 3) j) ∧ (∀ j, j < 12 → N (t + 4) j = M (o + 4) j ∧ N (t + 5) j = M (o + 5) j ∧ N (t + 6) j = M (o + 6) j) ∧ ∀ a, (a < t ∨ t + 7 ≤ a) → N a = M a := by
  unfold f_X8_copyFrom
  rw [if_pos h0]
  simp (disch := omega) only [sd_s_a, sd_cp_n]
  refine ⟨_, rfl, ⟨?_, ?_, ?_, ?_⟩, fun j hj => ⟨?_, ?_, ?_⟩, fun j hj => ⟨?_, ?_, ?_⟩, fun a ha => ?_⟩
  · simp (disch := omega) only [sd_cp_n, sd_s_j, sd_s_at]
  · simp (disch := omega) only [sd_cp_n, sd_s_j, sd_s_at]
  · simp (disch := omega) only [sd_cp_n, sd_s_j, sd_s_at]
  · simp (disch := omega) only [sd_cp_n, sd_s_j, sd_s_at]
  · simp (disch := omega) only [sd_cp_n, sd_cp_at, sd_s_a]
  · simp (disch := omega) only [sd_cp_n, sd_cp_at, sd_s_a]
  · simp (disch := omega) only [sd_cp_n, sd_cp_at, sd_s_a]
  · simp (disch := omega) only [sd_cp_n, sd_cp_at, sd_s_a]
  · simp (disch := omega) only [sd_cp_n, sd_cp_at, sd_s_a]
  · simp (disch := omega) only [sd_cp_n, sd_cp_at, sd_s_a]
  · simp (disch := omega) only [sd_cp_n, sd_s_a]
theorem cl_ncopy {M : sd_M} {t o : Nat} (hd : t + 3 ≤ o ∨ o + 3 ≤ t) : ∃ N, f_X3_copyFrom t o M = some (0, N) ∧ N t 0 = M o 0 ∧ (∀ j, j < 10 → N (t + 1) j = M (o + 1) j ∧ N (t + 2) j = M (o + 2) j) ∧ ∀ a, (a < t ∨ t + 3 ≤ a) → N a = M a := by
  unfold f_X3_copyFrom
  refine ⟨_, rfl, ?_, fun j hj => ⟨?_, ?_⟩, fun a ha => ?_⟩
  · simp (disch := omega) only [sd_cp_n, sd_s_at]
  · simp (disch := omega) only [sd_cp_n, sd_cp_at, sd_s_a]
  · simp (disch := omega) only [sd_cp_n, sd_cp_at, sd_s_a]
  · simp (disch := omega) only [sd_cp_n, sd_s_a]
theorem cl_tg_q {M N : sd_M} {t o : Nat} {S : Nat → Int} (ok : ms_tl S) (h : cl_tg M o S) (e0 : N t 0 = M o 0 ∧ N t 1 = M o 1 ∧ N t 2 = M o 2 ∧ N t 6 = M o 6) (e1 : ∀ j, j < 9 → N (t + 1) j = M (o + 1) j ∧ N (t + 2) j = M (o + 2) j ∧ N (t + 3) j = M (o + 3) j) (e4 : ∀ j, j < 12 → N (t + 4) j = M (o + 4) j ∧ N (t + 5) j = M (o + 5) j ∧ N (t + 6) j = M (o + 6) j) : cl_tg N t S := by
  have b2 := ok.2.1
  have b3 := ok.2.2.1
  obtain ⟨⟨t0, t1, t2, t3⟩, tf, tk⟩ := h
  refine ⟨⟨by rw [e0.1]; exact t0, by rw [e0.2.1]; exact t1, by rw [e0.2.2.1]; exact t2, by rw [e0.2.2.2]; exact t3⟩, fun f hf => ?_, fun k hk => ?_⟩
  · have q := e1 f (by omega)
    rw [q.1, q.2.1, q.2.2]
    exact tf f hf
  · have q := e4 k (by omega)
    rw [q.1, q.2.1, q.2.2]
    exact tk k hk
theorem cl_dcopy {M : sd_M} {t o : Nat} {S : Nat → Int} {z x : Int} (hd : t + 19 ≤ o ∨ o + 19 ≤ t) (ok : ms_sl S) (h : cl_dk M o S z x) : ∃ N, f_X2_copyFrom t o M = some (0, N) ∧ cl_dk N t S z x ∧ ∀ a, (a < t ∨ t + 19 ≤ a) → N a = M a := by
  obtain ⟨h1, h2, h3, h4, h5⟩ := h
  obtain ⟨N1, e1, a1, a2, a3, a4⟩ := cl_tcopy (M := M) (t := t + 1) (o := o + 1) (by omega) (by rw [h1.1.1]; exact ok.1.1.1)
  have t1 : cl_tg N1 (t + 1) S := cl_tg_q ok.1.1 h1 a1 a2 a3
  obtain ⟨N2, e2, b2, f2⟩ := cl_copy_k (M := N1) (b := t + 8) (o := o + 8) (by omega) ok.1 (cl_bk_c ok.1 h2 (fun _ _ => rfl) (fun a x y => a4 a (by omega)))
  obtain ⟨N3, e3, c1, c2, c3⟩ := cl_ncopy (M := N2) (t := t + 16) (o := o + 16) (by omega)
  have g3 : ∀ a, (o ≤ a ∧ a < o + 19) → N3 a = M a := fun a q => by rw [c3 a (by omega), f2 a (by omega), a4 a (by omega)]
  have g2 : ∀ a, (o ≤ a ∧ a < o + 19) → N2 a = M a := fun a q => by rw [f2 a (by omega), a4 a (by omega)]
  refine ⟨sd_s (sd_s N3 t 3 z) t 4 x, ?_, ⟨?_, ?_, ?_, ?_, ?_⟩, fun a ha => ?_⟩
  · unfold f_X2_copyFrom
    rw [e1, Option.bind_some]
    simp only []
    rw [e2, Option.bind_some]
    simp only []
    rw [e3, Option.bind_some]
    simp only []
    rw [sd_s_a (show o ≠ t by omega), g3 o (by omega), h4, h5]
  · exact cl_tg_c t1 (fun a q w => by rw [sd_s_a (by omega), sd_s_a (by omega), c3 a (by omega), f2 a (by omega)])
  · exact cl_bk_c ok.1 b2 (fun _ _ => rfl) (fun a q w => by rw [sd_s_a (by omega), sd_s_a (by omega), c3 a (by omega)])
  · have no := ok.2.2
    unfold cl_nt at h3 ⊢
    rw [sd_s_a (show t + 16 ≠ t by omega), sd_s_a (show t + 16 ≠ t by omega), sd_s_a (show t + 16 + 1 ≠ t by omega), sd_s_a (show t + 16 + 1 ≠ t by omega), sd_s_a (show t + 16 + 2 ≠ t by omega), sd_s_a (show t + 16 + 2 ≠ t by omega), c1, g2 (o + 16) (by omega)]
    refine ⟨h3.1, fun k hk => ?_⟩
    have q := c2 k (by have := no.1; omega)
    rw [q.1, q.2, g2 (o + 16 + 1) (by omega), g2 (o + 16 + 2) (by omega)]
    exact h3.2 k hk
  · rw [sd_s_j (by omega), sd_s_at]
  · rw [sd_s_at]
  · rw [sd_s_a (by omega), sd_s_a (by omega), c3 a (by omega), f2 a (by omega), a4 a (by omega)]
theorem ms_sl_s {S T : Nat → Int} (h : ms_sl S) (e : ∀ i, i < 128 → T i = S i) : ms_sl T := by
  have no := h.2.2
  refine ⟨ms_ok_c h.1 (fun i hi => e i (by omega)), by rw [e 58 (by omega)]; exact h.2.1, ?_⟩
  unfold ms_no at no ⊢
  rw [e 127 (by omega)]
  refine ⟨no.1, fun k hk => ?_⟩
  rw [e (107 + 2 * k) (by omega)]
  exact no.2 k hk
theorem cl_dk_s {M : sd_M} {d : Nat} {S T : Nat → Int} {z x : Int} (h : ms_sl S) (hd : cl_dk M d S z x) (e : ∀ i, i < 128 → T i = S i) : cl_dk M d T z x := by
  obtain ⟨⟨⟨t0, t1, t2, t3⟩, tf, tk⟩, h2, h3, h4⟩ := hd
  have b2 := h.1.1.2.1
  have b3 := h.1.1.2.2.1
  have nf : ∀ f : Int, ms_nf T f (T 3).toNat = ms_nf S f (S 3).toNat := fun f => by
    rw [e 3 (by omega)]
    exact ms_nf_c _ (fun k hk => e _ (by omega))
  refine ⟨⟨⟨by rw [e 0 (by omega)]; exact t0, by rw [e 1 (by omega)]; exact t1, by rw [e 2 (by omega)]; exact t2, by rw [e 3 (by omega)]; exact t3⟩, fun f hf => ?_, fun k hk => ?_⟩, cl_bk_c h.1 h2 (fun i hi => e i (by omega)) (fun _ _ _ => rfl), ?_, h4⟩
  · rw [e 2 (by omega)] at hf
    rw [e (4 + f) (by omega), e (13 + f) (by omega), nf]
    exact tf f hf
  · rw [e 3 (by omega)] at hk
    rw [e (22 + 3 * k) (by omega), e (23 + 3 * k) (by omega), e (24 + 3 * k) (by omega)]
    exact tk k hk
  · have no := h.2.2.1
    unfold cl_nt at h3 ⊢
    rw [e 127 (by omega)]
    refine ⟨h3.1, fun k hk => ?_⟩
    rw [e (107 + 2 * k) (by omega), e (108 + 2 * k) (by omega)]
    exact h3.2 k hk
theorem rf_image_l {M0 : sd_M} {p : Nat} (hp : p < 4) : ∀ (m k fu : Nat) (M : sd_M), k + m = 128 → m < fu → (∀ a, a ≠ 353 → M a = M0 a) → (∀ i, M 353 i = if 128 * p ≤ i ∧ i < 128 * p + k then M0 341 (i - 128 * p) else M0 353 i) → ms_T (f_X10_image_43 f_X10_image_74 fu (p : Int) (k : Int) M) (fun v N => v = M0 341 58 ∧ (∀ a, a ≠ 353 → N a = M0 a) ∧ ∀ i, N 353 i = if 128 * p ≤ i ∧ i < 128 * p + 128 then M0 341 (i - 128 * p) else M0 353 i) := by
  intro m
  induction m with
  | zero =>
    intro k fu M hk hf h1 h2
    obtain ⟨fu, rfl⟩ : ∃ g, fu = g + 1 := ⟨fu - 1, by omega⟩
    rw [f_X10_image_43, if_pos (by omega), f_X10_image_74, h1 341 (by omega)]
    rw [show k = 128 by omega] at h2
    exact ms_t_r ⟨rfl, h1, h2⟩
  | succ m ih =>
    intro k fu M hk hf h1 h2
    obtain ⟨fu, rfl⟩ : ∃ g, fu = g + 1 := ⟨fu - 1, by omega⟩
    have up := ih (k + 1) fu (sd_s M 353 (128 * p + k) (M 341 k)) (by omega) (by omega) (fun a x => by rw [sd_s_a x, h1 a x]) (fun i => by
      by_cases e : i = 128 * p + k
      · subst e
        rw [sd_s_at, h1 341 (by omega), if_pos (by omega)]
        congr 1
        omega
      · rw [sd_s_j e, h2 i]
        by_cases c : 128 * p ≤ i ∧ i < 128 * p + k
        · rw [if_pos c, if_pos (by omega)]
        · rw [if_neg c, if_neg (by omega)])
    push_cast at up
    rw [f_X10_image_43, if_neg (by omega), if_pos (by omega), sd_wid (z := 128 * (p : Int)) (by omega) (by omega), sd_wid (z := 128 * (p : Int) + (k : Int)) (by omega) (by omega), if_pos (by omega), sd_wid (z := (k : Int) + 1) (by omega) (by omega), show (128 * (p : Int) + (k : Int)).toNat = 128 * p + k by omega, Int.toNat_natCast]
    exact up
theorem sp_image : sd_S1 sd_Iv f_X9_image f_X10_image := by
  intro M h p hp
  by_cases c : 0 ≤ p ∧ p < 4
  · obtain ⟨p, rfl⟩ : ∃ k : Nat, p = k := ⟨p.toNat, by omega⟩
    have sl := iv_sl h
    obtain ⟨N1, e1, d1, f1⟩ := cl_dcopy (M := M) (t := 78 + 19 * p) (o := 58) (by omega) sl h.2.2.2.2.2.1
    have n66 : N1 66 1 = M 341 58 := by rw [f1 66 (by omega)]; exact (iv_bk h).1.1.2.1
    obtain ⟨v, L, e2, v2, l1, l2⟩ := rf_image_l (M0 := sd_s (sd_s (sd_s (sd_s N1 154 p 1) 356 p 1) 354 p (M 331 21)) 355 p (M 331 22)) (p := p) (by omega) 128 0 4000 _ (by omega) (by omega) (fun _ _ => rfl) (fun i => by rw [if_neg (by omega)])
    have q41 : sd_s (sd_s (sd_s (sd_s N1 154 p 1) 356 p 1) 354 p (M 331 21)) 355 p (M 331 22) 341 = M 341 := by rw [sd_s_a (by omega), sd_s_a (by omega), sd_s_a (by omega), sd_s_a (by omega), f1 341 (by omega)]
    have q53 : sd_s (sd_s (sd_s (sd_s N1 154 p 1) 356 p 1) 354 p (M 331 21)) 355 p (M 331 22) 353 = M 353 := by rw [sd_s_a (by omega), sd_s_a (by omega), sd_s_a (by omega), sd_s_a (by omega), f1 353 (by omega)]
    rw [q41] at v2
    rw [q41, q53] at l2
    have lo : ∀ a, a ≠ 154 → (a < 353) → (a < 78 + 19 * p ∨ 78 + 19 * p + 19 ≤ a) → L a = M a := fun a x y z => by rw [l1 a (by omega), sd_s_a (by omega), sd_s_a (by omega), sd_s_a (by omega), sd_s_a (by omega), f1 a z]
    have l154 : ∀ j, L 154 j = if j = p then 1 else M 154 j := fun j => by
      rw [l1 154 (by omega), sd_s_a (by omega), sd_s_a (by omega), sd_s_a (by omega)]
      by_cases e : j = p
      · rw [if_pos e, e, sd_s_at]
      · rw [if_neg e, sd_s_j e, f1 154 (by omega)]
    have l356 : ∀ j, L 356 j = if j = p then 1 else M 356 j := fun j => by
      rw [l1 356 (by omega), sd_s_a (by omega), sd_s_a (by omega)]
      by_cases e : j = p
      · rw [if_pos e, e, sd_s_at]
      · rw [if_neg e, sd_s_j e, sd_s_a (by omega), f1 356 (by omega)]
    have l354 : ∀ j, L 354 j = if j = p then M 331 21 else M 354 j := fun j => by
      rw [l1 354 (by omega), sd_s_a (by omega)]
      by_cases e : j = p
      · rw [if_pos e, e, sd_s_at]
      · rw [if_neg e, sd_s_j e, sd_s_a (by omega), sd_s_a (by omega), f1 354 (by omega)]
    have l355 : ∀ j, L 355 j = if j = p then M 331 22 else M 355 j := fun j => by
      rw [l1 355 (by omega)]
      by_cases e : j = p
      · rw [if_pos e, e, sd_s_at]
      · rw [if_neg e, sd_s_j e, sd_s_a (by omega), sd_s_a (by omega), sd_s_a (by omega), f1 355 (by omega)]
    refine ⟨M 341 58, sd_s N1 154 p 1, L, ?_, ?_, ?_⟩
    · unfold f_X9_image
      rw [if_neg (by omega), if_pos (by omega), if_pos (by omega), Int.toNat_natCast, e1, Option.bind_some]
      simp only []
      rw [if_pos (by omega), sd_s_a (by omega), n66]
    · unfold f_X10_image
      rw [rf_in1 (by omega), Option.bind_some]
      simp only []
      have a1 : sd_s (sd_s N1 154 p 1) 356 p 1 331 = M 331 := by rw [sd_s_a (by omega), sd_s_a (by omega), f1 331 (by omega)]
      have a2 : sd_s (sd_s (sd_s N1 154 p 1) 356 p 1) 354 p (M 331 21) 331 = M 331 := by rw [sd_s_a (by omega), a1]
      rw [if_neg (by omega), if_pos (by omega), if_pos (by omega), if_pos (by omega), Int.toNat_natCast, a1, a2, ← v2]
      exact e2
    · obtain ⟨ht, hr, hu, hi, hk⟩ := h
      have e31 : L 331 = M 331 := lo 331 (by omega) (by omega) (by omega)
      have e41 : L 341 = M 341 := lo 341 (by omega) (by omega) (by omega)
      refine ⟨iv_t_c ht (by rw [lo 1 (by omega) (by omega) (by omega)]) (lo 2 (by omega) (by omega) (by omega)) (by rw [e31]) (lo _ (by omega) (by omega) (by omega)), iv_r_c hr (by rw [lo 0 (by omega) (by omega) (by omega)]) (by rw [e31]) (fun a x y _ => lo a (by omega) (by omega) (by omega)) (lo _ (by omega) (by omega) (by omega)) (lo _ (by omega) (by omega) (by omega)) (lo _ (by omega) (by omega) (by omega)), iv_u_c hu (by rw [lo 0 (by omega) (by omega) (by omega)]) (by rw [lo 0 (by omega) (by omega) (by omega)]) (by rw [e31]) (fun i _ => by rw [e41]) (lo _ (by omega) (by omega) (by omega)) (fun a x y => lo a (by omega) (by omega) (by omega)), fun k hk4 => ?_, ?_⟩
      · rw [l154 k, l356 k, l354 k, l355 k, e31]
        by_cases e : k = p
        · subst e
          rw [if_pos rfl, if_pos rfl, if_pos rfl, if_pos rfl]
          have s : ∀ i, i < 128 → (fun i => L 353 (128 * k + i)) i = M 341 i := fun i hi => by
            simp only []
            rw [l2, if_pos (by omega), show 128 * k + i - 128 * k = i by omega]
          refine ⟨⟨rfl, Or.inr rfl⟩, fun _ => ⟨ms_sl_s sl s, cl_dk_s sl (cl_dk_c sl.1 d1 (fun a x y => ?_)) s, hk.2.2.1, hk.2.2.2⟩⟩
          rw [l1 a (by omega), sd_s_a (by omega), sd_s_a (by omega), sd_s_a (by omega), sd_s_a (by omega)]
        · rw [if_neg e, if_neg e, if_neg e, if_neg e]
          refine ⟨(hi k hk4).1, fun m => ?_⟩
          obtain ⟨a, b, c1, c2⟩ := (hi k hk4).2 m
          have s : ∀ i, i < 128 → (fun i => L 353 (128 * k + i)) i = (fun i => M 353 (128 * k + i)) i := fun i hi => by
            simp only []
            rw [l2, if_neg (by omega)]
          exact ⟨ms_sl_s a s, cl_dk_s a (cl_dk_c a.1 b (fun a x y => lo a (by omega) (by omega) (by omega))) s, c1, c2⟩
      · unfold iv_k
        rw [e31, e41]
        exact ⟨hk.1, cl_dk_c hk.1.1 hk.2.1 (fun a x y => lo a (by omega) (by omega) (by omega)), hk.2.2⟩
  · refine ⟨-1, M, M, ?_, ?_, h⟩
    · unfold f_X9_image
      by_cases d : p < 0
      · rw [if_pos d]
      · rw [if_neg d, if_neg (by omega)]
    · unfold f_X10_image
      rw [rf_in0 (by omega), Option.bind_some]
      rfl
theorem rf_back_l {M0 : sd_M} {p : Nat} (hp : p < 4) : ∀ (m k fu : Nat) (M : sd_M), k + m = 128 → m < fu → (∀ a, a ≠ 341 → M a = M0 a) → (∀ i, M 341 i = if i < k then M0 353 (128 * p + i) else M0 341 i) → ms_T (f_X10_back_50 f_X10_back_81 fu (p : Int) (k : Int) M) (fun v N => v = M0 353 (128 * p + 58) ∧ (∀ a, a ≠ 341 → N a = M0 a) ∧ ∀ i, i < 128 → N 341 i = M0 353 (128 * p + i)) := by
  intro m
  induction m with
  | zero =>
    intro k fu M hk hf h1 h2
    obtain ⟨fu, rfl⟩ : ∃ g, fu = g + 1 := ⟨fu - 1, by omega⟩
    rw [f_X10_back_50, if_pos (by omega), f_X10_back_81]
    refine ms_t_r ⟨?_, h1, fun i hi => ?_⟩
    · rw [h2 58, if_pos (by omega)]
    · rw [h2 i, if_pos (by omega)]
  | succ m ih =>
    intro k fu M hk hf h1 h2
    obtain ⟨fu, rfl⟩ : ∃ g, fu = g + 1 := ⟨fu - 1, by omega⟩
    have up := ih (k + 1) fu (sd_s M 341 k (M 353 (128 * p + k))) (by omega) (by omega) (fun a x => by rw [sd_s_a x, h1 a x]) (fun i => by
      by_cases e : i = k
      · subst e
        rw [sd_s_at, h1 353 (by omega), if_pos (by omega)]
      · rw [sd_s_j e, h2 i]
        by_cases c : i < k
        · rw [if_pos c, if_pos (by omega)]
        · rw [if_neg c, if_neg (by omega)])
    push_cast at up
    rw [f_X10_back_50, if_neg (by omega), sd_wid (z := 128 * (p : Int)) (by omega) (by omega), sd_wid (z := 128 * (p : Int) + (k : Int)) (by omega) (by omega), if_pos (by omega), if_pos (by omega), sd_wid (z := (k : Int) + 1) (by omega) (by omega), show (128 * (p : Int) + (k : Int)).toNat = 128 * p + k by omega, Int.toNat_natCast]
    exact up
theorem sp_back : sd_S1 sd_Iv f_X9_back f_X10_back := by
  intro M h p hp
  by_cases c : 0 ≤ p ∧ p < 4
  · obtain ⟨p, rfl⟩ : ∃ k : Nat, p = k := ⟨p.toNat, by omega⟩
    obtain ⟨i1, i2⟩ := h.2.2.2.1 p (by omega)
    by_cases d : M 356 p = 1
    · obtain ⟨s1, s2, s3, s4⟩ := i2 d
      obtain ⟨N1, e1, d1, f1⟩ := cl_dcopy (M := M) (t := 58) (o := 78 + 19 * p) (by omega) s1 s2
      have n66 : N1 66 1 = M 353 (128 * p + 58) := d1.2.1.1.1.2.1
      obtain ⟨v, L, e2, v2, l1, l2⟩ := rf_back_l (M0 := sd_s (sd_s (sd_s (sd_s N1 0 9 0) 331 21 (M 354 p)) 331 22 (M 355 p)) 331 27 0) (p := p) (by omega) 128 0 4000 _ (by omega) (by omega) (fun _ _ => rfl) (fun i => by rw [if_neg (by omega)])
      have q53 : sd_s (sd_s (sd_s (sd_s N1 0 9 0) 331 21 (M 354 p)) 331 22 (M 355 p)) 331 27 0 353 = M 353 := by rw [sd_s_a (by omega), sd_s_a (by omega), sd_s_a (by omega), sd_s_a (by omega), f1 353 (by omega)]
      rw [q53] at v2 l2
      have lo : ∀ a, a ≠ 0 → a ≠ 331 → a ≠ 341 → L a = N1 a := fun a x y z => by rw [l1 a z, sd_s_a y, sd_s_a y, sd_s_a y, sd_s_a x]
      have f31 : ∀ j, j ≠ 21 → j ≠ 22 → j ≠ 27 → L 331 j = M 331 j := fun j x y z => by rw [l1 331 (by omega), sd_s_j z, sd_s_j y, sd_s_j x, sd_s_a (by omega), f1 331 (by omega)]
      have g27 : L 331 27 = 0 := by rw [l1 331 (by omega), sd_s_at]
      have g22 : L 331 22 = M 355 p := by rw [l1 331 (by omega), sd_s_j (by omega), sd_s_at]
      have g21 : L 331 21 = M 354 p := by rw [l1 331 (by omega), sd_s_j (by omega), sd_s_j (by omega), sd_s_at]
      have l0 : ∀ j, j ≠ 9 → L 0 j = M 0 j := fun j x => by rw [l1 0 (by omega), sd_s_a (by omega), sd_s_a (by omega), sd_s_a (by omega), sd_s_j x, f1 0 (by omega)]
      have l09 : L 0 9 = 0 := by rw [l1 0 (by omega), sd_s_a (by omega), sd_s_a (by omega), sd_s_a (by omega), sd_s_at]
      have lm : ∀ a, a ≠ 0 → a ≠ 331 → a ≠ 341 → (a < 58 ∨ 77 ≤ a) → L a = M a := fun a x y z w => by rw [lo a x y z, f1 a w]
      refine ⟨M 353 (128 * p + 58), sd_s N1 0 9 0, L, ?_, ?_, ?_⟩
      · unfold f_X9_back
        rw [if_neg (by omega), if_neg (by omega), if_pos (by omega), Int.toNat_natCast, i1.1, if_neg (by omega), if_pos (by omega), e1, Option.bind_some]
        simp only []
        rw [sd_s_a (by omega), n66]
      · have a356 : sd_s N1 0 9 0 356 = M 356 := by rw [sd_s_a (by omega), f1 356 (by omega)]
        have a354 : sd_s N1 0 9 0 354 = M 354 := by rw [sd_s_a (by omega), f1 354 (by omega)]
        have a355 : sd_s (sd_s N1 0 9 0) 331 21 (M 354 p) 355 = M 355 := by rw [sd_s_a (by omega), sd_s_a (by omega), f1 355 (by omega)]
        unfold f_X10_back
        rw [rf_in1 (by omega), Option.bind_some]
        simp only []
        rw [if_neg (by omega), if_pos (by omega), Int.toNat_natCast, a356, if_neg (by omega), if_pos (by omega), if_pos (by omega), a354, a355, ← v2]
        exact e2
      · obtain ⟨ht, hr, hu, hi, hk⟩ := h
        have s : ∀ i, i < 128 → L 341 i = (fun i => M 353 (128 * p + i)) i := fun i hi => l2 i hi
        refine ⟨iv_t_c ht (by rw [lm 1 (by omega) (by omega) (by omega) (by omega)]) (lm 2 (by omega) (by omega) (by omega) (by omega)) (f31 1 (by omega) (by omega) (by omega)) (lm _ (by omega) (by omega) (by omega) (by omega)), iv_r_c hr (l0 4 (by omega)) (f31 2 (by omega) (by omega) (by omega)) (fun a x y _ => lm a (by omega) (by omega) (by omega) (by omega)) (lm _ (by omega) (by omega) (by omega) (by omega)) (lm _ (by omega) (by omega) (by omega) (by omega)) (lm _ (by omega) (by omega) (by omega) (by omega)), ?_, iv_i_c hi (lm _ (by omega) (by omega) (by omega) (by omega)) (lm _ (by omega) (by omega) (by omega) (by omega)) (lm _ (by omega) (by omega) (by omega) (by omega)) (lm _ (by omega) (by omega) (by omega) (by omega)) (lm _ (by omega) (by omega) (by omega) (by omega)) (by rw [f31 2 (by omega) (by omega) (by omega)]; omega) (fun a x y => lm a (by omega) (by omega) (by omega) (by omega)), ?_⟩
        · unfold iv_u
          rw [g27, l09, l0 10 (by omega)]
          exact ⟨⟨rfl, by omega, hu.1.2.2⟩, fun i hi2 => by omega⟩
        · unfold iv_k
          rw [g21, g22, f31 2 (by omega) (by omega) (by omega)]
          refine ⟨ms_sl_s s1 s, cl_dk_s s1 (cl_dk_c s1.1 d1 (fun a x y => lo a (by omega) (by omega) (by omega))) s, s3, s4⟩
    · refine ⟨-1, M, M, ?_, ?_, h⟩
      · unfold f_X9_back
        rw [if_neg (by omega), if_neg (by omega), if_pos (by omega), Int.toNat_natCast, i1.1, if_pos (by omega)]
      · unfold f_X10_back
        rw [rf_in1 (by omega), Option.bind_some]
        simp only []
        rw [if_neg (by omega), if_pos (by omega), Int.toNat_natCast, if_pos (by omega)]
  · refine ⟨-1, M, M, ?_, ?_, h⟩
    · unfold f_X9_back
      by_cases d : p < 0
      · rw [if_pos d]
      · rw [if_neg d, if_pos (by omega)]
    · unfold f_X10_back
      rw [rf_in0 (by omega), Option.bind_some]
      rfl
/-! bytes fed -/
def ms_by8 (v s : Int) : Int := Int.bmod (Int.bmod (sd_shr v s) 256) 256
theorem ms_by8_b (v s : Int) : -128 ≤ ms_by8 v s ∧ ms_by8 v s < 128 := by
  unfold ms_by8
  have a := Int.le_bmod (x := Int.bmod (sd_shr v s) 256) (m := 256) (by omega)
  have b := Int.bmod_lt (x := Int.bmod (sd_shr v s) 256) (m := 256) (by omega)
  omega
def ms_ap (v : Int) : Nat → Nat → (Nat → Int) → Nat → Int
  | 0, _, T => T
  | m + 1, n, T => ms_ap v m (n + 1) (ms_u T n (ms_by8 v (8 * (m : Int))))
theorem ms_ap_e {v : Int} : ∀ (m n : Nat) (T U : Nat → Int), (∀ j, j < n → T j = U j ∧ (-128 ≤ U j ∧ U j < 128)) → ∀ j, j < n + m → ms_ap v m n T j = ms_ap v m n U j ∧ (-128 ≤ ms_ap v m n U j ∧ ms_ap v m n U j < 128)
  | 0, n, T, U, h, j, hj => h j (by omega)
  | m + 1, n, T, U, h, j, hj => by
    rw [ms_ap, ms_ap]
    refine ms_ap_e m (n + 1) _ _ (fun i hi => ?_) j (by omega)
    by_cases e : i = n
    · rw [e, ms_u_at, ms_u_at]
      exact ⟨rfl, ms_by8_b _ _⟩
    · rw [ms_u_ne e, ms_u_ne e]
      exact h i (by omega)
theorem cl_append_l (v : Int) : ∀ (m n fu : Nat) (M : sd_M), m ≤ 4 → n + m ≤ 400 → m < fu → M 1 1 = n → ∃ N, f_X7_append_3 fu v (8 * (m : Int) - 8) M = some (0, N) ∧ N 1 1 = n + m ∧ N 2 = ms_ap v m n (M 2) ∧ (∀ j, j ≠ 1 → N 1 j = M 1 j) ∧ ∀ a, a ≠ 1 → a ≠ 2 → N a = M a := by
  intro m
  induction m with
  | zero =>
    intro n fu M h4 hn hf e
    obtain ⟨fu, rfl⟩ : ∃ g, fu = g + 1 := ⟨fu - 1, by omega⟩
    refine ⟨M, ?_, by rw [e]; simp, rfl, fun _ _ => rfl, fun _ _ _ => rfl⟩
    rw [f_X7_append_3, if_pos (by omega)]
  | succ m ih =>
    intro n fu M h4 hn hf e
    obtain ⟨fu, rfl⟩ : ∃ g, fu = g + 1 := ⟨fu - 1, by omega⟩
    have z : 8 * ((m + 1 : Nat) : Int) - 8 = 8 * (m : Int) := by push_cast; omega
    obtain ⟨N, n1, n2, n3, n4, n5⟩ := ih (n + 1) fu (sd_s (sd_s M 2 n (ms_by8 v (8 * (m : Int)))) 1 1 ((n : Int) + 1)) (by omega) (by omega) (by omega) (by rw [sd_s_at]; push_cast; rfl)
    refine ⟨N, ?_, by rw [n2]; push_cast; omega, ?_, fun j hj => ?_, fun a x y => ?_⟩
    · rw [z, f_X7_append_3, if_neg (by omega), e, if_neg (by omega), if_pos (by omega), Int.toNat_natCast, f_X7_append_40, sd_s_a (show (1 : Nat) ≠ 2 by omega), e, sd_wid (z := (n : Int) + 1) (by omega) (by omega), sd_wid (z := 8 * (m : Int) + (-8)) (by omega) (by omega), show 8 * (m : Int) + (-8) = 8 * (m : Int) - 8 by omega]
      exact n1
    · rw [n3, sd_s_a (show (2 : Nat) ≠ 1 by omega), sd_s_row, ms_ap]
    · rw [n4 j hj, sd_s_j hj, sd_s_a (by omega)]
    · rw [n5 a x y, sd_s_a x, sd_s_a y]
theorem cl_append (v : Int) {n : Nat} {M : sd_M} (hn : n + 4 ≤ 400) (e : M 1 1 = n) : ∃ N, f_X7_append v M = some (0, N) ∧ N 1 1 = (n + 4 : Nat) ∧ N 2 = ms_ap v 4 n (M 2) ∧ (∀ j, j ≠ 1 → N 1 j = M 1 j) ∧ ∀ a, a ≠ 1 → a ≠ 2 → N a = M a := by
  obtain ⟨N, n1, n2, n3⟩ := cl_append_l v 4 n 4000 M (by omega) hn (by omega) e
  exact ⟨N, n1, by rw [n2]; push_cast; rfl, n3⟩
theorem rf_four_l (v : Int) : ∀ (m n fu : Nat) (M : sd_M), m ≤ 4 → n + m ≤ 400 → m < fu → M 331 1 = n → ∃ N, f_X10_four_3 fu v (8 * (m : Int) - 8) M = some (0, N) ∧ N 331 1 = n + m ∧ N 332 = ms_ap v m n (M 332) ∧ (∀ j, j ≠ 1 → N 331 j = M 331 j) ∧ ∀ a, a ≠ 331 → a ≠ 332 → N a = M a := by
  intro m
  induction m with
  | zero =>
    intro n fu M h4 hn hf e
    obtain ⟨fu, rfl⟩ : ∃ g, fu = g + 1 := ⟨fu - 1, by omega⟩
    refine ⟨M, ?_, by rw [e]; simp, rfl, fun _ _ => rfl, fun _ _ _ => rfl⟩
    rw [f_X10_four_3, if_pos (by omega)]
  | succ m ih =>
    intro n fu M h4 hn hf e
    obtain ⟨fu, rfl⟩ : ∃ g, fu = g + 1 := ⟨fu - 1, by omega⟩
    have z : 8 * ((m + 1 : Nat) : Int) - 8 = 8 * (m : Int) := by push_cast; omega
    obtain ⟨N, n1, n2, n3, n4, n5⟩ := ih (n + 1) fu (sd_s (sd_s M 332 n (ms_by8 v (8 * (m : Int)))) 331 1 ((n : Int) + 1)) (by omega) (by omega) (by omega) (by rw [sd_s_at]; push_cast; rfl)
    refine ⟨N, ?_, by rw [n2]; push_cast; omega, ?_, fun j hj => ?_, fun a x y => ?_⟩
    · rw [z, f_X10_four_3, if_neg (by omega), e, if_pos (by omega), Int.toNat_natCast, sd_s_a (show (331 : Nat) ≠ 332 by omega), e, sd_wid (z := (n : Int) + 1) (by omega) (by omega), sd_wid (z := 8 * (m : Int) + (-8)) (by omega) (by omega), show 8 * (m : Int) + (-8) = 8 * (m : Int) - 8 by omega]
      exact n1
    · rw [n3, sd_s_a (show (332 : Nat) ≠ 331 by omega), sd_s_row, ms_ap]
    · rw [n4 j hj, sd_s_j hj, sd_s_a (by omega)]
    · rw [n5 a x y, sd_s_a x, sd_s_a y]
theorem rf_four (v : Int) {n : Nat} {M : sd_M} (hn : n + 4 ≤ 400) (e : M 331 1 = n) : ∃ N, f_X10_four v M = some (0, N) ∧ N 331 1 = (n + 4 : Nat) ∧ N 332 = ms_ap v 4 n (M 332) ∧ (∀ j, j ≠ 1 → N 331 j = M 331 j) ∧ ∀ a, a ≠ 331 → a ≠ 332 → N a = M a := by
  obtain ⟨N, n1, n2, n3⟩ := rf_four_l v 4 n 4000 M (by omega) hn (by omega) e
  exact ⟨N, n1, by rw [n2]; push_cast; rfl, n3⟩
theorem sp_feed : sd_S5 sd_Iv f_X9_feed f_X10_feed := by
  intro M h a b c d e ha hb hc hd he
  have t := h.1
  have t2 := t.2.1
  by_cases g : M 331 1 + 20 ≤ 400
  · obtain ⟨n, hn⟩ : ∃ n : Nat, M 331 1 = n := ⟨(M 331 1).toNat, by omega⟩
    obtain ⟨N1, p1, q1, r1, s1, t1⟩ := cl_append a (n := n) (M := M) (by omega) (by rw [t.1, hn])
    obtain ⟨N2, p2, q2, r2, s2, t2⟩ := cl_append b (by omega) q1
    obtain ⟨N3, p3, q3, r3, s3, t3⟩ := cl_append c (by omega) q2
    obtain ⟨N4, p4, q4, r4, s4, t4⟩ := cl_append d (by omega) q3
    obtain ⟨N5, p5, q5, r5, s5, t5⟩ := cl_append e (by omega) q4
    have fr : ∀ x, x ≠ 1 → x ≠ 2 → N5 x = M x := fun x y z => by rw [t5 x y z, t4 x y z, t3 x y z, t2 x y z, t1 x y z]
    obtain ⟨K1, p6, q6, r6, s6, t6⟩ := rf_four a (n := n) (M := N5) (by omega) (by rw [fr 331 (by omega) (by omega), hn])
    obtain ⟨K2, p7, q7, r7, s7, t7⟩ := rf_four b (by omega) q6
    obtain ⟨K3, p8, q8, r8, s8, t8⟩ := rf_four c (by omega) q7
    obtain ⟨K4, p9, q9, r9, s9, t9⟩ := rf_four d (by omega) q8
    obtain ⟨K5, p0, q0, r0, s0, t0⟩ := rf_four e (by omega) q9
    have fk : ∀ x, x ≠ 331 → x ≠ 332 → K5 x = N5 x := fun x y z => by rw [t0 x y z, t9 x y z, t8 x y z, t7 x y z, t6 x y z]
    have fa : ∀ x, x ≠ 1 → x ≠ 2 → x ≠ 331 → x ≠ 332 → K5 x = M x := fun x y z u w => by rw [fk x u w, fr x y z]
    have fj : ∀ j, j ≠ 1 → K5 331 j = M 331 j := fun j x => by rw [s0 j x, s9 j x, s8 j x, s7 j x, s6 j x, fr 331 (by omega) (by omega)]
    have n31 : N5 331 1 = n := by rw [fr 331 (by omega) (by omega), hn]
    refine ⟨((n + 4 + 4 + 4 + 4 + 4 : Nat) : Int), N5, K5, ?_, ?_, ?_⟩
    · unfold f_X9_feed
      rw [t.1, hn, sd_wid (by omega) (by omega), if_pos (by omega), p1, Option.bind_some]
      simp only []
      rw [p2, Option.bind_some]
      simp only []
      rw [p3, Option.bind_some]
      simp only []
      rw [p4, Option.bind_some]
      simp only []
      rw [p5, Option.bind_some]
      simp only []
      rw [q5]
    · unfold f_X10_feed
      rw [n31, sd_wid (by omega) (by omega), if_pos (by omega), p6, Option.bind_some]
      simp only []
      rw [p7, Option.bind_some]
      simp only []
      rw [p8, Option.bind_some]
      simp only []
      rw [p9, Option.bind_some]
      simp only []
      rw [p0, Option.bind_some]
      simp only []
      rw [q0]
    · obtain ⟨ht, hr, hu, hi, hk⟩ := h
      refine ⟨?_, iv_r_c hr (by rw [fa 0 (by omega) (by omega) (by omega) (by omega)]) (fj 2 (by omega)) (fun a x y _ => fa a (by omega) (by omega) (by omega) (by omega)) (fa _ (by omega) (by omega) (by omega) (by omega)) (fa _ (by omega) (by omega) (by omega) (by omega)) (fa _ (by omega) (by omega) (by omega) (by omega)), iv_u_c hu (by rw [fa 0 (by omega) (by omega) (by omega) (by omega)]) (by rw [fa 0 (by omega) (by omega) (by omega) (by omega)]) (fj 27 (by omega)) (fun i _ => by rw [fa 341 (by omega) (by omega) (by omega) (by omega)]) (fa _ (by omega) (by omega) (by omega) (by omega)) (fun a x y => fa a (by omega) (by omega) (by omega) (by omega)), iv_i_c hi (fa _ (by omega) (by omega) (by omega) (by omega)) (fa _ (by omega) (by omega) (by omega) (by omega)) (fa _ (by omega) (by omega) (by omega) (by omega)) (fa _ (by omega) (by omega) (by omega) (by omega)) (fa _ (by omega) (by omega) (by omega) (by omega)) (by rw [fj 2 (by omega)]; omega) (fun a x y => fa a (by omega) (by omega) (by omega) (by omega)), ?_⟩
      · have e2 : K5 2 = N5 2 := fk 2 (by omega) (by omega)
        have e1 : K5 1 = N5 1 := fk 1 (by omega) (by omega)
        unfold iv_t
        rw [e1, e2, q0, q5]
        refine ⟨rfl, by omega, fun j hj => ?_⟩
        rw [r5, r4, r3, r2, r1, r0, r9, r8, r7, r6, fr 332 (by omega) (by omega)]
        have x0 : ∀ j, j < n → M 2 j = M 332 j ∧ (-128 ≤ M 332 j ∧ M 332 j < 128) := fun j hj => ht.2.2 j (by omega)
        have x1 := ms_ap_e (v := a) 4 n _ _ x0
        have x2 := ms_ap_e (v := b) 4 (n + 4) _ _ x1
        have x3 := ms_ap_e (v := c) 4 (n + 4 + 4) _ _ x2
        have x4 := ms_ap_e (v := d) 4 (n + 4 + 4 + 4) _ _ x3
        exact ms_ap_e (v := e) 4 (n + 4 + 4 + 4 + 4) _ _ x4 j (by omega)
      · unfold iv_k
        rw [fa 341 (by omega) (by omega) (by omega) (by omega), fj 21 (by omega), fj 22 (by omega), fj 2 (by omega)]
        exact ⟨hk.1, cl_dk_c hk.1.1 hk.2.1 (fun a x y => fa a (by omega) (by omega) (by omega) (by omega)), hk.2.2⟩
  · refine ⟨-1, M, M, ?_, ?_, h⟩
    · unfold f_X9_feed
      rw [t.1, sd_wid (by omega) (by omega), if_neg g]
    · unfold f_X10_feed
      rw [sd_wid (by omega) (by omega), if_neg g]
