/-! the class reckons a rule's steps -/
theorem cl_reckon {M : sd_M} {c x y : Int} (hc : 2 ≤ c ∧ c ≤ 6) : f_X4_reckon c x y M = some (ms_e2 c x y, M) := by
  have k := (ms_cmp (x := y) (y := 0)).2.2
  unfold f_X4_reckon ms_e2
  by_cases c2 : c = 2
  · rw [if_pos c2, if_pos c2]
  rw [if_neg c2, if_neg c2]
  by_cases c3 : c = 3
  · rw [if_pos c3, if_pos c3]
  rw [if_neg c3, if_neg c3]
  by_cases c4 : c = 4
  · rw [if_pos c4, if_pos c4]
  rw [if_neg c4, if_neg c4]
  by_cases c5 : c = 5
  · rw [if_pos c5, if_pos c5]
    by_cases z : y = 0
    · rw [if_pos (k.mpr z), if_pos z]
    · rw [if_neg (fun e => z (k.mp e)), if_neg z, if_pos z]
  rw [if_neg c5, if_neg c5, if_pos (show c = 6 by omega)]
  by_cases z : y = 0
  · rw [if_pos (k.mpr z), if_pos z]
  · rw [if_neg (fun e => z (k.mp e)), if_neg z, if_pos z]
theorem cl_truth {M : sd_M} {c x y : Int} (hc : 7 ≤ c ∧ c ≤ 13) : f_X4_truth c x y M = some (ms_e2 c x y, M) := by
  obtain ⟨k1, k2, k3⟩ := ms_cmp (x := x) (y := y)
  have z1 := (ms_cmp (x := x) (y := 0)).2.2
  have z2 := (ms_cmp (x := y) (y := 0)).2.2
  have t0 : f_X4_truth_161 0 M = some (0, M) := by rw [f_X4_truth_161, if_pos rfl]
  have t1 : f_X4_truth_161 1 M = some (1, M) := by rw [f_X4_truth_161, if_neg (by omega)]
  unfold f_X4_truth ms_e2
  simp only [f_X4_truth_51, f_X4_truth_67, f_X4_truth_83, f_X4_truth_99, f_X4_truth_115, f_X4_truth_136, f_X4_truth_137, f_X4_truth_154, f_X4_truth_159, t0, t1]
  rw [if_neg (show ¬ c = 2 by omega), if_neg (show ¬ c = 3 by omega), if_neg (show ¬ c = 4 by omega), if_neg (show ¬ c = 5 by omega), if_neg (show ¬ c = 6 by omega)]
  by_cases c7 : c = 7
  · rw [if_pos c7, if_pos c7]
    by_cases d : x < y
    · rw [if_neg (by omega), if_pos d]
    · rw [if_pos (by omega), if_neg d]
  rw [if_neg c7, if_neg c7]
  by_cases c8 : c = 8
  · rw [if_pos c8, if_pos c8]
    by_cases d : x ≤ y
    · rw [if_neg (by omega), if_pos d]
    · rw [if_pos (by omega), if_neg d]
  rw [if_neg c8, if_neg c8]
  by_cases c9 : c = 9
  · rw [if_pos c9, if_pos c9]
    by_cases d : x = y
    · rw [if_pos (k3.mpr d), if_pos d]
    · rw [if_neg (fun e => d (k3.mp e)), if_neg d]
  rw [if_neg c9, if_neg c9]
  by_cases c10 : c = 10
  · rw [if_pos c10, if_pos c10]
    by_cases d : y ≤ x
    · rw [if_neg (by omega), if_pos d]
    · rw [if_pos (by omega), if_neg d]
  rw [if_neg c10, if_neg c10]
  by_cases c11 : c = 11
  · rw [if_pos c11, if_pos c11]
    by_cases d : y < x
    · rw [if_neg (by omega), if_pos d]
    · rw [if_pos (by omega), if_neg d]
  rw [if_neg c11, if_neg c11]
  by_cases c12 : c = 12
  · rw [if_pos c12, if_pos c12]
    by_cases a : x = 0
    · rw [if_pos (z1.mpr a), if_neg (fun e => e.1 a)]
    · rw [if_neg (fun e => a (z1.mp e))]
      by_cases b : y = 0
      · rw [if_pos (z2.mpr b), if_neg (fun e => e.2 b)]
      · rw [if_neg (fun e => b (z2.mp e)), if_pos ⟨a, b⟩]
  rw [if_neg c12, if_neg c12]
  by_cases a : x = 0
  · rw [if_pos (z1.mpr a)]
    by_cases b : y = 0
    · rw [if_pos (z2.mpr b), if_neg (fun e => e.elim (fun h => h a) (fun h => h b))]
    · rw [if_neg (fun e => b (z2.mp e)), if_pos (Or.inr b)]
  · rw [if_neg (fun e => a (z1.mp e)), if_pos (Or.inl a)]
theorem cl_run_l {M0 : sd_M} {R n to : Nat} {P V : Nat → Int} (hR : R + 6 < 317) (hP : M0 (R + 4) = P) (hV : M0 (R + 5) = V) (hn : n ≤ 400) (hto : to ≤ n) (kk : Int → sd_M → Option (Int × sd_M)) : ∀ (m i fu : Nat) (M : sd_M) (t t2 : List Bool) (s : List Int), i + m = to → m < fu → (∀ a, a ≠ R + 6 → M a = M0 a) → t.length ≤ 60 → ms_tr P V m i t = some t2 → ms_vt t s → ms_sr (M (R + 6)) s → ∃ N, (∀ a, a ≠ R + 6 → N a = M0 a) ∧ ms_sr (N (R + 6)) (ms_ru P V (M0 317) m i s) ∧ ms_vt t2 (ms_ru P V (M0 317) m i s) ∧ f_X4_run_6 kk R fu (to : Int) ((s.length : Int) - 1) (i : Int) M = kk (((ms_ru P V (M0 317) m i s).length : Int) - 1) N := by
  intro m
  induction m with
  | zero =>
    intro i fu M t t2 s hi hf hM hl ht hv hs
    obtain ⟨fu, rfl⟩ : ∃ g, fu = g + 1 := ⟨fu - 1, by omega⟩
    rw [ms_tr] at ht
    injection ht with ht
    subst ht
    exact ⟨M, hM, hs, hv, by rw [f_X4_run_6, if_pos (by omega)]; rfl⟩
  | succ m ih =>
    intro i fu M t t2 s hi hf hM hl ht hv hs
    obtain ⟨fu, rfl⟩ : ∃ g, fu = g + 1 := ⟨fu - 1, by omega⟩
    obtain ⟨t1, h1, h2⟩ := ms_tr_s ht
    have vl := ms_vt_l hv
    have eP : M (R + 4) = P := by rw [hM _ (by omega), hP]
    have eV : M (R + 5) = V := by rw [hM _ (by omega), hV]
    have e317 : M 317 = M0 317 := hM 317 (by omega)
    have up : ∀ N, (∀ a, a ≠ R + 6 → N a = M0 a) → ms_sr (N (R + 6)) (ms_e1 (P i) (V i) (M0 317) s) → ∃ K, (∀ a, a ≠ R + 6 → K a = M0 a) ∧ ms_sr (K (R + 6)) (ms_ru P V (M0 317) (m + 1) i s) ∧ ms_vt t2 (ms_ru P V (M0 317) (m + 1) i s) ∧ f_X4_run_200 (f_X4_run_6 kk R fu) kk R (to : Int) (((ms_e1 (P i) (V i) (M0 317) s).length : Int) - 1) (i : Int) N = kk (((ms_ru P V (M0 317) (m + 1) i s).length : Int) - 1) K := by
      intro N hN hsN
      obtain ⟨K, k1, k2, k3, k4⟩ := ih (i + 1) fu N t1 t2 _ (by omega) (by omega) hN (ms_t1_l h1 hl) h2 (ms_e1_t h1 hv (M0 317)) hsN
      refine ⟨K, k1, k2, k3, ?_⟩
      rw [f_X4_run_200, sd_wid (by omega) (by omega)]
      push_cast at k4
      exact k4
    have i4 : (0 ≤ (i : Int) ∧ (i : Int) < 400) = True := eq_true (by omega)
    rw [f_X4_run_6, if_neg (by omega), if_neg (by omega), eP, eV]
    simp only [i4, if_true, Int.toNat_natCast]
    have wr : ∀ (j : Nat) (v : Int), (∀ a, a ≠ R + 6 → sd_s M (R + 6) j v a = M0 a) := fun j v a ha => by rw [sd_s_a ha, hM a ha]
    rcases ms_t1_c h1 hv with ⟨a1, a2, a3⟩ | ⟨a1, q, x, s2, a2, a3, a4, hx, hr2⟩ | ⟨a1, b, d, q, x, y, s2, a2, a3, a4, hr2, -, -⟩
    · have et : sd_w ((s.length : Int) - 1 + 1) = (s.length : Int) := by rw [sd_wid (by omega) (by omega)]; omega
      have b1 : (0 ≤ (s.length : Int) ∧ (s.length : Int) < 64) = True := eq_true (by omega)
      rcases a3 with ⟨a3, a4⟩ | ⟨a3, a4⟩
      · have e1 : ms_e1 (P i) (V i) (M0 317) s = V i :: s := by rw [a3]; rfl
        obtain ⟨K, k1, k2, k3, k4⟩ := up (sd_s M (R + 6) s.length (V i)) (wr _ _) (by rw [e1, sd_s_row]; exact ms_sr_p hs)
        refine ⟨K, k1, k2, k3, ?_⟩
        rw [← k4, if_pos a3, et, if_neg (by omega), if_pos (by omega), Int.toNat_natCast, e1, List.length_cons]
        congr 1
        push_cast
        omega
      · have e1 : ms_e1 (P i) (V i) (M0 317) s = M0 317 (V i).toNat :: s := by rw [a3]; rfl
        obtain ⟨K, k1, k2, k3, k4⟩ := up (sd_s M (R + 6) s.length (M0 317 (V i).toNat)) (wr _ _) (by rw [e1, sd_s_row]; exact ms_sr_p hs)
        refine ⟨K, k1, k2, k3, ?_⟩
        rw [← k4, if_neg (by omega), f_X4_run_64, if_pos a3, et, if_neg (by omega), if_pos (by omega), eV, Int.toNat_natCast, if_pos a4, if_pos (by omega), Int.toNat_natCast, e1, List.length_cons, e317]
        congr 1
        push_cast
        omega
    · have e1 : ms_e1 (P i) (V i) (M0 317) s = sd_wl (1 - x) :: s2 := by rw [a1, a4]; rfl
      rw [a4] at hs vl
      simp only [List.length_cons] at vl
      obtain ⟨K, k1, k2, k3, k4⟩ := up (sd_s M (R + 6) s2.length (sd_wl (1 - x))) (wr _ _) (by rw [e1, sd_s_row]; exact ms_sr_p hs.2)
      refine ⟨K, k1, k2, k3, ?_⟩
      have lc : ((s.length : Int) - 1) = s2.length := by rw [a4, List.length_cons]; push_cast; omega
      rw [← k4, if_neg (by omega), f_X4_run_64, if_neg (by omega), f_X4_run_101, if_pos a1, lc, if_neg (by omega), if_pos (by omega), if_pos (by omega), Int.toNat_natCast, hs.1, e1, List.length_cons]
      congr 1
      push_cast
      omega
    · have e1 : ms_e1 (P i) (V i) (M0 317) s = ms_e2 (P i) x y :: s2 := by
        unfold ms_e1
        rw [if_neg (by omega), if_neg (by omega), if_neg (by omega), a4]
      rw [a4] at hs vl
      simp only [List.length_cons] at vl
      obtain ⟨K, k1, k2, k3, k4⟩ := up (sd_s M (R + 6) s2.length (ms_e2 (P i) x y)) (wr _ _) (by rw [e1, sd_s_row]; exact ms_sr_p hs.2.2)
      refine ⟨K, k1, k2, k3, ?_⟩
      have lc : ((s.length : Int) - 1) = (s2.length : Int) + 1 := by rw [a4, List.length_cons, List.length_cons]; push_cast; omega
      have y1 : M (R + 6) ((s2.length : Int) + 1).toNat = y := by
        rw [show ((s2.length : Int) + 1).toNat = (x :: s2).length by rw [List.length_cons]; omega]
        exact hs.1
      have x1 : M (R + 6) ((s2.length : Int)).toNat = x := by rw [Int.toNat_natCast]; exact hs.2.1
      have g1 : 0 ≤ (s2.length : Int) ∧ (s2.length : Int) < 64 := by omega
      have g2 : 0 ≤ (s2.length : Int) + 1 ∧ (s2.length : Int) + 1 < 64 := by omega
      have g3 : ¬ (s2.length : Int) + 1 < 1 := by omega
      have n0 : ¬ P i = 0 := by omega
      have n1 : ¬ P i = 1 := by omega
      have n14 : ¬ P i = 14 := by omega
      have ls : (((s2.length + 1 : Nat) : Int) - 1) = s2.length := by push_cast; omega
      have p7 : 7 ≤ P i → 7 ≤ P i ∧ P i ≤ 13 := fun q => by omega
      have p6 : ¬ 7 ≤ P i → 2 ≤ P i ∧ P i ≤ 6 := fun q => by omega
      have w1 : sd_w ((s2.length : Int) + 1 + (-1)) = s2.length := by rw [sd_wid (by omega) (by omega)]; omega
      have w2 : sd_w ((s2.length : Int) + 1) = (s2.length : Int) + 1 := sd_wid (by clear w1; omega) (by clear w1; omega)
      rw [← k4, if_neg n0, f_X4_run_64, if_neg n1, f_X4_run_101, if_neg n14, f_X4_run_132, lc, if_neg g3, w1, w2, if_pos g1, if_pos g2, y1, x1, e1, List.length_cons, ls]
      by_cases c7 : 7 ≤ P i
      · rw [if_pos c7, cl_truth (p7 c7), Option.bind_some]
        simp only []
        rw [f_X4_run_199, if_pos g1, Int.toNat_natCast]
      · rw [if_neg c7, cl_reckon (p6 c7), Option.bind_some]
        simp only []
        rw [f_X4_run_199, if_pos g1, if_pos g2, if_pos g1, Int.toNat_natCast]
theorem cl_run {M : sd_M} {R n a b : Nat} {P V : Nat → Int} {k : Bool} (hR : R + 6 < 317) (hP : M (R + 4) = P) (hV : M (R + 5) = V) (hn : n ≤ 400) (hb : b ≤ n) (hab : a ≤ b) (ht : ms_tr P V (b - a) a [] = some [k]) : ms_T (f_X4_run R (a : Int) (b : Int) M) (fun v N => v = ms_rv P V (M 317) a b ∧ (∀ x, x ≠ R + 6 → N x = M x)) := by
  obtain ⟨N, n1, n2, n3, n4⟩ := cl_run_l hR hP hV hn hb (f_X4_run_206 R) (b - a) a 4000 M [] [k] [] (by omega) (by omega) (fun _ _ => rfl) (by simp) ht trivial trivial
  have n5 : f_X4_run_6 (f_X4_run_206 R) R 4000 (b : Int) (-1) (a : Int) M = _ := n4
  unfold f_X4_run
  rw [n5, f_X4_run_206]
  unfold ms_rv
  match e : ms_ru P V (M 317) (b - a) a [], n3 with
  | [x], n3 =>
    rw [e] at n2
    simp only [List.length_cons, List.length_nil]
    rw [if_neg (by decide), if_pos (by decide)]
    exact ms_t_r ⟨n2.1, n1⟩
/-- a rule of the class -/
def cl_rl (M : sd_M) (R mm : Nat) (P V A B D : Nat → Int) : Prop := M R 0 = mm ∧ M (R + 1) = A ∧ M (R + 2) = B ∧ M (R + 3) = D ∧ M (R + 4) = P ∧ M (R + 5) = V
theorem cl_worth_l {M0 : sd_M} {R r n mm : Nat} {P V A B D : Nat → Int} (hR : R + 6 < 317) (hc : rf_cd M0 r n P V) (hl : rf_cl M0 r n mm P V A B D) (hr : cl_rl M0 R mm P V A B D) : ∀ (m c fu : Nat) (M : sd_M), c + m = mm → m < fu → (∀ x, x ≠ R + 6 → M x = M0 x) → ms_T (f_X4_worth_2 (f_X4_worth_47 R) R fu (c : Int) M) (fun v N => v = ms_wo P V A B D (M0 317) m c ∧ ∀ x, x ≠ R + 6 → N x = M0 x) := by
  obtain ⟨r0, r1, r2, r3, r4, r5⟩ := hr
  have hn := hc.1
  have m12 := hl.1.1
  intro m
  induction m with
  | zero =>
    intro c fu M hk hf hM
    obtain ⟨fu, rfl⟩ : ∃ g, fu = g + 1 := ⟨fu - 1, by omega⟩
    rw [f_X4_worth_2, hM R (by omega), r0, if_pos (by omega)]
    exact ms_t_r ⟨rfl, hM⟩
  | succ m ih =>
    intro c fu M hk hf hM
    obtain ⟨fu, rfl⟩ : ∃ g, fu = g + 1 := ⟨fu - 1, by omega⟩
    obtain ⟨⟨a0, ab, bd, dn⟩, _, ts, tt⟩ := hl.2 c (by omega)
    have c12 : (0 ≤ (c : Int) ∧ (c : Int) < 12) = True := eq_true (by omega)
    have e2 : M (R + 2) = B := by rw [hM _ (by omega), r2]
    have e3 : M (R + 3) = D := by rw [hM _ (by omega), r3]
    have w47 : ∀ K : sd_M, (∀ x, x ≠ R + 6 → K x = M0 x) → ms_T (f_X4_worth_47 R (c : Int) K) (fun v N => v = ms_rv P V (M0 317) (A c).toNat (B c).toNat ∧ ∀ x, x ≠ R + 6 → N x = M0 x) := fun K hK => by
      have q := cl_run (M := K) (R := R) (n := n) (a := (A c).toNat) (b := (B c).toNat) (P := P) (V := V) hR (by rw [hK _ (by omega), r4]) (by rw [hK _ (by omega), r5]) hn (by omega) (by omega) ts
      rw [Int.toNat_of_nonneg (by omega), Int.toNat_of_nonneg (by omega), hK 317 (by omega)] at q
      unfold f_X4_worth_47
      simp only [c12, if_true, Int.toNat_natCast, hK (R + 1) (by omega), hK (R + 2) (by omega), r1, r2]
      exact ms_t_b q (fun v N hN => ms_t_r ⟨hN.1, fun x hx => (hN.2 x hx).trans (hK x hx)⟩)
    rw [f_X4_worth_2, hM R (by omega), r0, if_neg (by omega), e2, e3]
    simp only [c12, if_true, Int.toNat_natCast]
    rw [ms_wo]
    by_cases bd2 : B c = D c
    · rw [if_pos bd2, if_pos bd2]
      exact w47 M hM
    · rw [if_neg bd2, if_neg bd2]
      have t2 := tt.resolve_left bd2
      have q := cl_run (M := M) (R := R) (n := n) (a := (B c).toNat) (b := (D c).toNat) (P := P) (V := V) hR (by rw [hM _ (by omega), r4]) (by rw [hM _ (by omega), r5]) hn (by omega) (by omega) t2
      rw [Int.toNat_of_nonneg (by omega), Int.toNat_of_nonneg (by omega), hM 317 (by omega)] at q
      refine ms_t_b q (fun v N hN => ?_)
      simp only []
      have hN2 : ∀ x, x ≠ R + 6 → N x = M0 x := fun x hx => by rw [hN.2 x hx, hM x hx]
      have z := (ms_cmp (x := v) (y := 0)).2.2
      by_cases vz : v = 0
      · rw [if_pos (z.mpr vz), if_pos (by rw [← hN.1]; exact vz), sd_wid (by omega) (by omega)]
        have up := ih (c + 1) fu N (by omega) (by omega) hN2
        push_cast at up
        exact up
      · rw [if_neg (fun e => vz (z.mp e)), if_neg (by rw [← hN.1]; exact vz)]
        exact w47 N hN2
theorem cl_worth {M : sd_M} {R r n mm : Nat} {P V A B D : Nat → Int} (hR : R + 6 < 317) (hc : rf_cd M r n P V) (hl : rf_cl M r n mm P V A B D) (hr : cl_rl M R mm P V A B D) : ms_T (f_X4_worth R M) (fun v N => v = ms_wo P V A B D (M 317) mm 0 ∧ ∀ x, x ≠ R + 6 → N x = M x) := by
  have m12 := hl.1.1
  exact cl_worth_l hR hc hl hr mm 0 4000 M (by omega) (by omega) (fun _ _ => rfl)
