/-! what changes: each part of the invariant by itself -/
theorem iv_t_c {M N : sd_M} (h : iv_t M) (e1 : N 1 1 = M 1 1) (e2 : N 2 = M 2) (f1 : N 331 1 = M 331 1) (e3 : N 332 = M 332) : iv_t N := by
  unfold iv_t
  rw [e1, e2, f1, e3]
  exact h
theorem iv_r_c {M N : sd_M} (h : iv_r M) (e0 : N 0 4 = M 0 4) (f2 : N 331 2 = M 331 2) (e : ∀ a, 16 ≤ a → a < 58 → (∀ r, r < 6 → a ≠ 22 + 7 * r) → N a = M a) (e3 : N 333 = M 333) (e5 : N 335 = M 335) (e6 : N 336 = M 336) : iv_r N := by
  unfold iv_r
  rw [e0, f2]
  refine ⟨h.1, fun r hr2 => ?_⟩
  obtain ⟨n, mm, P, V, A, B, D, h1, h2, h3⟩ := h.2 r hr2
  have r6 : r < 6 := by
    have := h.1
    omega
  refine ⟨n, mm, P, V, A, B, D, rf_cd_k h1 e3, rf_cl_k h2 e5 e6, ?_⟩
  obtain ⟨q0, q1, q2, q3, q4, q5⟩ := h3
  have g : ∀ k, k < 6 → N (16 + 7 * r + k) = M (16 + 7 * r + k) := fun k hk => e _ (by omega) (by omega) (fun s hs => by omega)
  have g0 : N (16 + 7 * r) = M (16 + 7 * r) := g 0 (by omega)
  exact ⟨by rw [g0]; exact q0, by rw [g 1 (by omega)]; exact q1, by rw [g 2 (by omega)]; exact q2, by rw [g 3 (by omega)]; exact q3, by rw [g 4 (by omega)]; exact q4, by rw [g 5 (by omega)]; exact q5⟩
theorem ms_ok_c {S T : Nat → Int} (h : ms_ok S) (e : ∀ i, i < 107 → T i = S i) : ms_ok T := by
  have l := ms_lines h
  refine ms_ok_g h (ms_tl_c (fun i hi => e i (by omega)) h.1) (e 2 (by omega)) ?_ (fun f hf => ?_) (fun i hi => e i (by omega))
  · rw [e 59 (by omega), e 0 (by omega)]
    exact h.2.2.1
  · have a := h.2.2.2.1 f hf
    rw [e (62 + f) (by omega), e (80 + f) (by omega)]
    exact ⟨a.1, a.2.2⟩
theorem ms_wa_c {S T K : Nat → Int} {o : Nat} (e : ∀ i, i < 58 → T i = S i) : ∀ i, i < 107 → ms_wa T K o i = ms_wa S K o i := fun i hi => by
  unfold ms_wa
  by_cases c : 58 ≤ i ∧ i < 107
  · rw [if_pos c, if_pos c]
  · rw [if_neg c, if_neg c, e i (by omega)]
theorem iv_u_c {M N : sd_M} (h : iv_u M) (e9 : N 0 9 = M 0 9) (e10 : N 0 10 = M 0 10) (f27 : N 331 27 = M 331 27) (e41 : ∀ i, i < 58 → N 341 i = M 341 i) (e45 : N 345 = M 345) (e : ∀ a, 156 ≤ a → a < 316 → N a = M a) : iv_u N := by
  unfold iv_u
  rw [e9, e10, f27, e45]
  refine ⟨h.1, fun i hi => ?_⟩
  obtain ⟨⟨a, b⟩, c⟩ := h.2 i hi
  have w := ms_wa_c (K := M 345) (o := 49 * i) e41
  refine ⟨⟨ms_ok_c a w, ?_⟩, cl_bk_c a c (fun j hj => w j (by omega)) (fun x y z => e x (by omega) (by omega))⟩
  rw [w 58 (by omega)]
  exact b
theorem iv_i_c {M N : sd_M} (h : iv_i M) (e154 : N 154 = M 154) (e353 : N 353 = M 353) (e354 : N 354 = M 354) (e355 : N 355 = M 355) (e356 : N 356 = M 356) (f2 : M 331 2 ≤ N 331 2) (e : ∀ a, 78 ≤ a → a < 154 → N a = M a) : iv_i N := by
  unfold iv_i
  rw [e154, e356, e353, e354, e355]
  intro k hk
  refine ⟨(h k hk).1, fun m => ?_⟩
  obtain ⟨a, b, c, d⟩ := (h k hk).2 m
  exact ⟨a, cl_dk_c a.1 b (fun a x y => e a (by omega) (by omega)), by omega, d⟩
/-! force, seed, end -/
theorem sp_force : sd_S1 sd_Iv f_X9_force f_X10_force := by
  intro M h z hz
  have r := h.2.1.1
  have zx := iv_zx h
  by_cases c : -1 ≤ z ∧ z < M 331 2
  · refine ⟨M 331 21, sd_s M 58 3 z, sd_s (sd_s M 58 3 z) 331 21 z, ?_, ?_, ?_⟩
    · unfold f_X9_force
      rw [if_neg (by omega), if_pos (by omega), zx.1]
    · have e : sd_s M 58 3 z 331 = M 331 := sd_s_a (by omega)
      unfold f_X10_force f_X10_force_16
      rw [e]
      by_cases d : z = -1
      · rw [if_pos d]
      · rw [if_neg d, rf_isRule, e, if_pos (by omega), Option.bind_some]
        simp only []
        rw [if_neg (by omega), e]
    · obtain ⟨ht, hr, hu, hi, hk⟩ := h
      have e : ∀ a, a ≠ 58 → a ≠ 331 → sd_s (sd_s M 58 3 z) 331 21 z a = M a := fun a x y => by rw [sd_s_a y, sd_s_a x]
      have f : ∀ j, j ≠ 21 → sd_s (sd_s M 58 3 z) 331 21 z 331 j = M 331 j := fun j x => by rw [sd_s_j x, sd_s_a (by omega)]
      refine ⟨iv_t_c ht (by rw [e 1 (by omega) (by omega)]) (e 2 (by omega) (by omega)) (f 1 (by omega)) (e _ (by omega) (by omega)), iv_r_c hr (by rw [e 0 (by omega) (by omega)]) (f 2 (by omega)) (fun a x y _ => e a (by omega) (by omega)) (e _ (by omega) (by omega)) (e _ (by omega) (by omega)) (e _ (by omega) (by omega)), iv_u_c hu (by rw [e 0 (by omega) (by omega)]) (by rw [e 0 (by omega) (by omega)]) (f 27 (by omega)) (fun i _ => by rw [e 341 (by omega) (by omega)]) (e _ (by omega) (by omega)) (fun a x y => e a (by omega) (by omega)), iv_i_c hi (e _ (by omega) (by omega)) (e _ (by omega) (by omega)) (e _ (by omega) (by omega)) (e _ (by omega) (by omega)) (e _ (by omega) (by omega)) (by rw [f 2 (by omega)]; omega) (fun a x y => e a (by omega) (by omega)), ?_⟩
      unfold iv_k
      rw [e 341 (by omega) (by omega), sd_s_at, f 22 (by omega), f 2 (by omega)]
      obtain ⟨k1, ⟨k2, k3, k4, k5, k6⟩, k7, k8⟩ := hk
      refine ⟨k1, ⟨cl_tg_c k2 (fun a x y => e a (by omega) (by omega)), cl_bk_c k1.1 k3 (fun _ _ => rfl) (fun a x y => e a (by omega) (by omega)), cl_nt_c k4 (fun a x y => e a (by omega) (by omega)), ?_, ?_⟩, c, k8⟩
      · rw [sd_s_a (by omega), sd_s_at]
      · rw [sd_s_a (by omega), sd_s_j (by omega)]
        exact k6
  · refine ⟨-2, M, M, ?_, ?_, h⟩
    · unfold f_X9_force
      by_cases d : z < -1
      · rw [if_pos d]
      · rw [if_neg d, if_neg (by omega)]
    · unfold f_X10_force
      rw [if_neg (by omega), rf_isRule, if_neg (by omega), Option.bind_some]
      rfl
theorem sp_seed : sd_S1 sd_Iv f_X9_seed f_X10_seed := by
  intro M h z hz
  have zx := iv_zx h
  unfold sd_rg at hz
  by_cases c : 0 ≤ z
  · refine ⟨M 331 22, sd_s M 58 4 z, sd_s (sd_s M 58 4 z) 331 22 z, ?_, ?_, ?_⟩
    · unfold f_X9_seed
      rw [if_pos c, zx.2]
    · have e : sd_s M 58 4 z 331 = M 331 := sd_s_a (by omega)
      unfold f_X10_seed
      rw [if_pos c, e]
    · obtain ⟨ht, hr, hu, hi, hk⟩ := h
      have e : ∀ a, a ≠ 58 → a ≠ 331 → sd_s (sd_s M 58 4 z) 331 22 z a = M a := fun a x y => by rw [sd_s_a y, sd_s_a x]
      have f : ∀ j, j ≠ 22 → sd_s (sd_s M 58 4 z) 331 22 z 331 j = M 331 j := fun j x => by rw [sd_s_j x, sd_s_a (by omega)]
      refine ⟨iv_t_c ht (by rw [e 1 (by omega) (by omega)]) (e 2 (by omega) (by omega)) (f 1 (by omega)) (e _ (by omega) (by omega)), iv_r_c hr (by rw [e 0 (by omega) (by omega)]) (f 2 (by omega)) (fun a x y _ => e a (by omega) (by omega)) (e _ (by omega) (by omega)) (e _ (by omega) (by omega)) (e _ (by omega) (by omega)), iv_u_c hu (by rw [e 0 (by omega) (by omega)]) (by rw [e 0 (by omega) (by omega)]) (f 27 (by omega)) (fun i _ => by rw [e 341 (by omega) (by omega)]) (e _ (by omega) (by omega)) (fun a x y => e a (by omega) (by omega)), iv_i_c hi (e _ (by omega) (by omega)) (e _ (by omega) (by omega)) (e _ (by omega) (by omega)) (e _ (by omega) (by omega)) (e _ (by omega) (by omega)) (by rw [f 2 (by omega)]; omega) (fun a x y => e a (by omega) (by omega)), ?_⟩
      unfold iv_k
      rw [e 341 (by omega) (by omega), sd_s_at, f 21 (by omega), f 2 (by omega)]
      obtain ⟨k1, ⟨k2, k3, k4, k5, k6⟩, k7, k8⟩ := hk
      refine ⟨k1, ⟨cl_tg_c k2 (fun a x y => e a (by omega) (by omega)), cl_bk_c k1.1 k3 (fun _ _ => rfl) (fun a x y => e a (by omega) (by omega)), cl_nt_c k4 (fun a x y => e a (by omega) (by omega)), ?_, ?_⟩, k7, by omega⟩
      · rw [sd_s_a (by omega), sd_s_j (by omega)]
        exact k5
      · rw [sd_s_a (by omega), sd_s_at]
  · refine ⟨-1, M, M, ?_, ?_, h⟩
    · unfold f_X9_seed
      rw [if_neg c]
    · unfold f_X10_seed
      rw [if_neg c]
theorem sp_end : sd_S1 sd_Iv f_X9_end f_X10_end := by
  intro M h n hn
  have t := h.1
  by_cases c : 0 ≤ n ∧ n ≤ M 331 1
  · refine ⟨n, sd_s M 1 1 n, sd_s (sd_s M 1 1 n) 331 1 n, ?_, ?_, ?_⟩
    · unfold f_X9_end
      rw [if_neg (by omega), if_pos (by rw [t.1]; omega)]
    · have e : sd_s M 1 1 n 331 = M 331 := sd_s_a (by omega)
      unfold f_X10_end
      rw [e, if_neg (by omega), if_pos (by omega)]
    · have e : ∀ a, a ≠ 1 → a ≠ 331 → sd_s (sd_s M 1 1 n) 331 1 n a = M a := fun a x y => by rw [sd_s_a y, sd_s_a x]
      have f : ∀ j, j ≠ 1 → sd_s (sd_s M 1 1 n) 331 1 n 331 j = M 331 j := fun j x => by rw [sd_s_j x, sd_s_a (by omega)]
      obtain ⟨ht, hr, hu, hi, hk⟩ := h
      refine ⟨?_, iv_r_c hr (by rw [e 0 (by omega) (by omega)]) (f 2 (by omega)) (fun a x y _ => e a (by omega) (by omega)) (e _ (by omega) (by omega)) (e _ (by omega) (by omega)) (e _ (by omega) (by omega)), iv_u_c hu (by rw [e 0 (by omega) (by omega)]) (by rw [e 0 (by omega) (by omega)]) (f 27 (by omega)) (fun i _ => by rw [e 341 (by omega) (by omega)]) (e _ (by omega) (by omega)) (fun a x y => e a (by omega) (by omega)), iv_i_c hi (e _ (by omega) (by omega)) (e _ (by omega) (by omega)) (e _ (by omega) (by omega)) (e _ (by omega) (by omega)) (e _ (by omega) (by omega)) (by rw [f 2 (by omega)]; omega) (fun a x y => e a (by omega) (by omega)), ?_⟩
      · unfold iv_t
        rw [sd_s_at, sd_s_a (show (1 : Nat) ≠ 331 by omega), sd_s_at, e 2 (by omega) (by omega), e 332 (by omega) (by omega)]
        exact ⟨rfl, by have := ht.2.1; omega, fun j hj => ht.2.2 j (by omega)⟩
      · unfold iv_k
        rw [e 341 (by omega) (by omega), f 22 (by omega), f 21 (by omega), f 2 (by omega)]
        exact ⟨hk.1, cl_dk_c hk.1.1 hk.2.1 (fun a x y => e a (by omega) (by omega)), hk.2.2⟩
  · refine ⟨-1, M, M, ?_, ?_, h⟩
    · unfold f_X9_end
      by_cases d : n < 0
      · rw [if_pos d]
      · rw [if_neg d, if_neg (by rw [t.1]; omega)]
    · unfold f_X10_end
      by_cases d : n < 0
      · rw [if_pos d]
      · rw [if_neg d, if_neg (by omega)]
/-! notes -/
theorem iv_no {M N : sd_M} (h : sd_Iv M) {T : Nat → Int} (e41 : N 341 = T) (lo : ∀ i, i < 107 → T i = M 341 i) (no : ms_no T) (nt : cl_nt N 74 T) (e : ∀ a, a ≠ 74 → a ≠ 75 → a ≠ 76 → a ≠ 341 → N a = M a) : sd_Iv N := by
  obtain ⟨ht, hr, hu, hi, hk⟩ := h
  have e1 : ∀ a, (a < 74 ∨ 77 ≤ a) → a ≠ 341 → N a = M a := fun a x y => e a (by omega) (by omega) (by omega) y
  refine ⟨iv_t_c ht (by rw [e1 1 (by omega) (by omega)]) (e1 2 (by omega) (by omega)) (by rw [e1 331 (by omega) (by omega)]) (e1 _ (by omega) (by omega)), iv_r_c hr (by rw [e1 0 (by omega) (by omega)]) (by rw [e1 331 (by omega) (by omega)]) (fun a x y _ => e1 a (by omega) (by omega)) (e1 _ (by omega) (by omega)) (e1 _ (by omega) (by omega)) (e1 _ (by omega) (by omega)), iv_u_c hu (by rw [e1 0 (by omega) (by omega)]) (by rw [e1 0 (by omega) (by omega)]) (by rw [e1 331 (by omega) (by omega)]) (fun i hi => by rw [e41, lo i (by omega)]) (e1 _ (by omega) (by omega)) (fun a x y => e1 a (by omega) (by omega)), iv_i_c hi (e1 _ (by omega) (by omega)) (e1 _ (by omega) (by omega)) (e1 _ (by omega) (by omega)) (e1 _ (by omega) (by omega)) (e1 _ (by omega) (by omega)) (by rw [e1 331 (by omega) (by omega)]; omega) (fun a x y => e1 a (by omega) (by omega)), ?_⟩
  unfold iv_k
  rw [e41, e1 331 (by omega) (by omega)]
  obtain ⟨k1, ⟨k2, k3, k4, k5, k6⟩, k7⟩ := hk
  refine ⟨⟨ms_ok_c k1.1 lo, by rw [lo 58 (by omega)]; exact k1.2.1, no⟩, ⟨?_, cl_bk_c k1.1 k3 (fun i hi => lo i (by omega)) (fun a x y => e1 a (by omega) (by omega)), nt, by rw [e1 58 (by omega) (by omega)]; exact k5, by rw [e1 58 (by omega) (by omega)]; exact k6⟩, k7⟩
  have t := cl_tg_c (N := N) k2 (fun a x y => e1 a (by omega) (by omega))
  have nf : ∀ f : Int, ms_nf T f (T 3).toNat = ms_nf (M 341) f (M 341 3).toNat := fun f => by
    have b := k1.1.1.2.2.1
    rw [lo 3 (by omega)]
    exact ms_nf_c _ (fun k hk => lo _ (by omega))
  have b2 := k1.1.1.2.1
  have b3 := k1.1.1.2.2.1
  obtain ⟨⟨t0, t1, t2, t3⟩, tf, tk⟩ := t
  refine ⟨⟨by rw [lo 0 (by omega)]; exact t0, by rw [lo 1 (by omega)]; exact t1, by rw [lo 2 (by omega)]; exact t2, by rw [lo 3 (by omega)]; exact t3⟩, fun f hf => ?_, fun k hk => ?_⟩
  · rw [lo 2 (by omega)] at hf
    rw [lo (4 + f) (by omega), lo (13 + f) (by omega), nf]
    exact tf f hf
  · rw [lo 3 (by omega)] at hk
    rw [lo (22 + 3 * k) (by omega), lo (23 + 3 * k) (by omega), lo (24 + 3 * k) (by omega)]
    exact tk k hk
theorem sp_note : sd_S2 sd_Iv f_X9_note f_X10_note := by
  intro M h n f hn hf
  have sl := iv_sl h
  have nt := iv_nt h
  have sp := iv_sp h
  have no := sl.2.2
  have no1 := no.1
  by_cases c : n = -1
  · refine ⟨0, sd_s M 74 0 0, sd_s (sd_s M 74 0 0) 341 127 0, ?_, ?_, ?_⟩
    · unfold f_X9_note
      rw [if_pos c]
    · unfold f_X10_note
      rw [if_pos c]
    · refine iv_no h (T := ms_u (M 341) 127 0) (by rw [sd_s_row, sd_s_a (by omega)]) (fun i hi => ms_u_ne (by omega)) ⟨by rw [ms_u_at]; omega, fun k hk => by rw [ms_u_at] at hk; omega⟩ ⟨by rw [sd_s_a (by omega), sd_s_at, ms_u_at], fun k hk => by rw [ms_u_at] at hk; omega⟩ (fun a x y z w => by rw [sd_s_a w, sd_s_a x])
  · by_cases d : M 341 0 = 1 ∧ (0 ≤ n ∧ n ≤ 30) ∧ (f = -1 ∨ (0 ≤ f ∧ f < M 341 2)) ∧ M 341 127 < 10
    · obtain ⟨d1, d2, d3, d4⟩ := d
      obtain ⟨k, hk⟩ : ∃ k : Nat, M 341 127 = k := ⟨(M 341 127).toNat, by omega⟩
      have nt0 := nt.1
      rw [hk] at nt0
      have ad : f_X3_adds 74 n f M = some (1, sd_s (sd_s (sd_s M 75 k n) 76 k f) 74 0 ((k : Int) + 1)) := by
        have e1 : sd_s M 75 k n 74 0 = k := by rw [sd_s_a (by omega), nt0]
        have e2 : sd_s (sd_s M 75 k n) 76 k f 74 0 = k := by rw [sd_s_a (by omega), e1]
        unfold f_X3_adds
        rw [nt0, if_neg (by omega), if_pos (by omega), if_pos (by omega), Int.toNat_natCast, e1, if_pos (by omega), Int.toNat_natCast, e2, sd_wid (by omega) (by omega)]
      have n54 : f_X9_note_54 n f M = some ((k : Int) + 1, sd_s (sd_s (sd_s M 75 k n) 76 k f) 74 0 ((k : Int) + 1)) := by
        unfold f_X9_note_54
        rw [ad, Option.bind_some]
        simp only []
        rw [if_neg (by omega), sd_s_at]
      have r47 : ∀ N : sd_M, N 341 = M 341 → f_X10_note_47 n f N = some ((k : Int) + 1, sd_s (sd_s (sd_s N 341 (107 + 2 * k) n) 341 (108 + 2 * k) f) 341 127 ((k : Int) + 1)) := fun N e => by
        have h1 : sd_s N 341 (107 + 2 * k) n 341 127 = k := by rw [sd_s_j (by omega), e, hk]
        have h2 : sd_s (sd_s N 341 (107 + 2 * k) n) 341 (108 + 2 * k) f 341 127 = k := by rw [sd_s_j (by omega), h1]
        unfold f_X10_note_47
        rw [e, hk, if_neg (by omega), sd_wid (z := 2 * (k : Int)) (by omega) (by omega), sd_wid (z := 107 + 2 * (k : Int)) (by omega) (by omega), if_pos (by omega), show (107 + 2 * (k : Int)).toNat = 107 + 2 * k by omega, h1, sd_wid (z := 2 * (k : Int)) (by omega) (by omega), sd_wid (z := 107 + 2 * (k : Int)) (by omega) (by omega), sd_wid (z := 107 + 2 * (k : Int) + 1) (by omega) (by omega), if_pos (by omega), show (107 + 2 * (k : Int) + 1).toNat = 108 + 2 * k by omega, h2, sd_wid (z := (k : Int) + 1) (by omega) (by omega), sd_s_at]
      have q : ∀ a, a ≠ 74 → a ≠ 75 → a ≠ 76 → sd_s (sd_s (sd_s M 75 k n) 76 k f) 74 0 ((k : Int) + 1) a = M a := fun a x y z => by rw [sd_s_a x, sd_s_a z, sd_s_a y]
      refine ⟨(k : Int) + 1, sd_s (sd_s (sd_s M 75 k n) 76 k f) 74 0 ((k : Int) + 1), sd_s (sd_s (sd_s (sd_s (sd_s (sd_s M 75 k n) 76 k f) 74 0 ((k : Int) + 1)) 341 (107 + 2 * k) n) 341 (108 + 2 * k) f) 341 127 ((k : Int) + 1), ?_, ?_, ?_⟩
      · unfold f_X9_note
        rw [if_neg c, if_neg (by omega), if_neg (by omega), if_neg (by omega)]
        by_cases g : f = -1
        · rw [if_pos g]
          exact n54
        · rw [if_neg g, iv_isOffer h, if_pos (by omega), Option.bind_some]
          simp only []
          rw [if_neg (by omega)]
          exact n54
      · have e41 : sd_s (sd_s (sd_s M 75 k n) 76 k f) 74 0 ((k : Int) + 1) 341 = M 341 := q 341 (by omega) (by omega) (by omega)
        unfold f_X10_note
        rw [if_neg c, rf_sl1 (by rw [e41]; exact d1), Option.bind_some]
        simp only []
        rw [if_neg (by omega), rf_in1 d2, Option.bind_some]
        simp only []
        rw [if_neg (by omega)]
        by_cases g : f = -1
        · rw [if_pos g]
          exact r47 _ e41
        · rw [if_neg g, rf_isOffer, e41, if_pos (by omega), Option.bind_some]
          simp only []
          rw [if_neg (by omega)]
          exact r47 _ e41
      · have e41 : sd_s (sd_s (sd_s M 75 k n) 76 k f) 74 0 ((k : Int) + 1) 341 = M 341 := q 341 (by omega) (by omega) (by omega)
        refine iv_no h (T := ms_u (ms_u (ms_u (M 341) (107 + 2 * k) n) (108 + 2 * k) f) 127 ((k : Int) + 1)) ?_ (fun i hi => ?_) ⟨by rw [ms_u_at]; omega, fun j hj => ?_⟩ ⟨?_, fun j hj => ?_⟩ (fun a x y z w => ?_)
        · rw [sd_s_row, sd_s_row, sd_s_row, e41]
        · rw [ms_u_ne (by omega), ms_u_ne (by omega), ms_u_ne (by omega)]
        · rw [ms_u_at] at hj
          rw [ms_u_ne (by omega), ms_u_ne (by omega)]
          by_cases g : j = k
          · subst g
            rw [ms_u_at]
            exact d2
          · rw [ms_u_ne (by omega)]
            exact no.2 j (by omega)
        · rw [sd_s_a (by omega), sd_s_a (by omega), sd_s_a (by omega), sd_s_at, ms_u_at]
        · rw [ms_u_at] at hj
          rw [sd_s_a (show (74 + 1 : Nat) ≠ 341 by omega), sd_s_a (show (74 + 1 : Nat) ≠ 341 by omega), sd_s_a (show (74 + 1 : Nat) ≠ 341 by omega), sd_s_a (show (74 + 1 : Nat) ≠ 74 by omega), sd_s_a (show (74 + 1 : Nat) ≠ 76 by omega), sd_s_a (show (74 + 2 : Nat) ≠ 341 by omega), sd_s_a (show (74 + 2 : Nat) ≠ 341 by omega), sd_s_a (show (74 + 2 : Nat) ≠ 341 by omega), sd_s_a (show (74 + 2 : Nat) ≠ 74 by omega), ms_u_ne (show 107 + 2 * j ≠ 127 by omega), ms_u_ne (show 107 + 2 * j ≠ 108 + 2 * k by omega), ms_u_ne (show 108 + 2 * j ≠ 127 by omega)]
          by_cases g : j = k
          · subst g
            rw [show (74 + 1 : Nat) = 75 from rfl, show (74 + 2 : Nat) = 76 from rfl, sd_s_at, sd_s_at, ms_u_at, ms_u_at]
            exact ⟨rfl, rfl⟩
          · rw [show (74 + 1 : Nat) = 75 from rfl, show (74 + 2 : Nat) = 76 from rfl, sd_s_j g, sd_s_j g, sd_s_a (show (76 : Nat) ≠ 75 by omega), ms_u_ne (by omega), ms_u_ne (by omega), ms_u_ne (by omega)]
            exact nt.2 j (by omega)
        · rw [sd_s_a w, sd_s_a w, sd_s_a w, q a x y z]
    · refine ⟨-2, M, M, ?_, ?_, h⟩
      · have full : f_X9_note_54 n f M = some (-2, M) ∨ M 341 127 < 10 := by
          by_cases g : M 341 127 < 10
          · exact Or.inr g
          · refine Or.inl ?_
            unfold f_X9_note_54 f_X3_adds
            rw [nt.1, if_neg (by omega), if_neg g, Option.bind_some]
            rfl
        unfold f_X9_note
        rw [if_neg c]
        by_cases g : M 59 0 = 0
        · rw [if_pos g]
        · rw [if_neg g]
          by_cases g1 : n < 0
          · rw [if_pos g1]
          · rw [if_neg g1]
            by_cases g2 : 31 ≤ n
            · rw [if_pos g2]
            · rw [if_neg g2]
              by_cases g3 : f = -1
              · rw [if_pos g3]
                rcases full with x | x
                · exact x
                · exact absurd ⟨by omega, by omega, Or.inl g3, x⟩ d
              · rw [if_neg g3, iv_isOffer h, Option.bind_some]
                simp only []
                by_cases g4 : 0 ≤ f ∧ f < M 341 2
                · rw [if_pos g4, if_neg (by omega)]
                  rcases full with x | x
                  · exact x
                  · exact absurd ⟨by omega, by omega, Or.inr g4, x⟩ d
                · rw [if_neg g4, if_pos rfl]
      · have full : f_X10_note_47 n f M = some (-2, M) ∨ M 341 127 < 10 := by
          by_cases g : M 341 127 < 10
          · exact Or.inr g
          · refine Or.inl ?_
            unfold f_X10_note_47
            rw [if_pos (by omega)]
        unfold f_X10_note
        rw [if_neg c, rf_isSlip, Option.bind_some]
        simp only []
        by_cases g : M 341 0 = 1
        · rw [if_pos g, if_neg (by omega), rf_in, Option.bind_some]
          simp only []
          by_cases g1 : 0 ≤ n ∧ n ≤ 30
          · rw [if_pos g1, if_neg (by omega)]
            by_cases g3 : f = -1
            · rw [if_pos g3]
              rcases full with x | x
              · exact x
              · exact absurd ⟨g, g1, Or.inl g3, x⟩ d
            · rw [if_neg g3, rf_isOffer, Option.bind_some]
              simp only []
              by_cases g4 : 0 ≤ f ∧ f < M 341 2
              · rw [if_pos g4, if_neg (by omega)]
                rcases full with x | x
                · exact x
                · exact absurd ⟨g, g1, Or.inr g4, x⟩ d
              · rw [if_neg g4, if_pos rfl]
          · rw [if_neg g1, if_pos rfl]
        · rw [if_neg g, if_pos rfl]
