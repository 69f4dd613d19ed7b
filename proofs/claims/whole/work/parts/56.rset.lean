/-! the reference: all settle, one is taken, all begins -/
def ms_fs (S : Nat → Int) : Nat → Nat → Nat
  | 0, k => k
  | m + 1, k => if ms_ha S (S (89 + k)) = true then ms_fs S m (k + 1) else k
def ms_f0 (S : Nat → Int) : Nat := ms_fs S (S 60).toNat 0
def ms_se : Nat → (Nat → Int) → (Nat → Int)
  | 0, S => S
  | m + 1, S => if (ms_f0 S : Int) < S 60 then ms_se m (ms_go S (ms_f0 S) (S (89 + ms_f0 S))) else S
def ms_st (S : Nat → Int) : Nat → Int := ms_se 9 S
theorem ms_fs_b {S : Nat → Int} : ∀ m k, k ≤ ms_fs S m k ∧ ms_fs S m k ≤ k + m
  | 0, k => ⟨Nat.le_refl _, Nat.le_refl _⟩
  | m + 1, k => by
    have := ms_fs_b (S := S) m (k + 1)
    rw [ms_fs]
    split <;> omega
def rf_g (M N : sd_M) : Prop := ∀ a, a ≠ 341 → a ≠ 342 → a ≠ 343 → a ≠ 344 → N a = M a
theorem rf_g_rf {M : sd_M} : rf_g M M := fun _ _ _ _ _ => rfl
theorem rf_g_tr {M N K : sd_M} (h : rf_g M N) (g : rf_g N K) : rf_g M K := fun a w x y z => (g a w x y z).trans (h a w x y z)
theorem rf_g_f {M N : sd_M} (h : rf_f M N) : rf_g M N := fun a _ x y z => h a x y z
theorem rf_g_1 {M N : sd_M} (h : ∀ a, a ≠ 341 → N a = M a) : rf_g M N := fun a w _ _ _ => h a w
theorem rf_settle_l {M0 : sd_M} (h : ms_ok (M0 341)) : ∀ (m k fu : Nat) (M : sd_M), (k : Int) + m = M0 341 60 → m < fu → rf_f M0 M → ((ms_fs (M0 341) m k = k + m → ms_T (f_X10_settlesAll_2 fu (k : Int) M) (fun _ N => rf_f M0 N)) ∧ (ms_fs (M0 341) m k < k + m → ∃ N fu2, fu ≤ fu2 + m ∧ rf_g M0 N ∧ N 341 = ms_go (M0 341) (ms_fs (M0 341) m k) (M0 341 (89 + ms_fs (M0 341) m k)) ∧ f_X10_settlesAll_2 fu (k : Int) M = f_X10_settlesAll_2 fu2 0 N)) := by
  have l := ms_lines h
  intro m
  induction m with
  | zero =>
    intro k fu M hk hf hM
    obtain ⟨fu, rfl⟩ : ∃ g, fu = g + 1 := ⟨fu - 1, by omega⟩
    refine ⟨fun _ => ?_, fun hc => absurd hc (by rw [ms_fs]; omega)⟩
    rw [f_X10_settlesAll_2, rf_f_41 hM, if_pos (by omega)]
    exact ms_t_r hM
  | succ m ih =>
    intro k fu M hk hf hM
    obtain ⟨fu, rfl⟩ : ∃ g, fu = g + 1 := ⟨fu - 1, by omega⟩
    have e := rf_f_41 hM
    obtain ⟨r, N, e1, e2, e3⟩ := rf_hasAll (M := M) (by rw [e]; exact h) (M0 341 (89 + k))
    rw [e] at e2
    have s : f_X10_settlesAll_2 (fu + 1) (k : Int) M = if r = 0 then (f_X10_goesOut (N 341 (89 + k)) N).bind fun r6 => f_X10_settlesAll_2 fu 0 r6.2 else f_X10_settlesAll_2 fu ((k : Int) + 1) N := by
      rw [f_X10_settlesAll_2, e, if_neg (by omega), sd_wid (z := 89 + (k : Int)) (by omega) (by omega), if_pos (by omega), show (89 + (k : Int)).toNat = 89 + k by omega, e1, Option.bind_some, sd_wid (z := (k : Int) + 1) (by omega) (by omega), if_pos (show 0 ≤ 89 + (k : Int) ∧ 89 + (k : Int) < 128 by omega)]
    rw [s, ms_fs]
    have eN := rf_f_41 (rf_f_tr hM e3)
    by_cases hd : ms_ha (M0 341) (M0 341 (89 + k)) = true
    · rw [if_pos hd] at e2
      rw [if_pos hd, if_neg (by omega)]
      have up := ih (k + 1) fu N (by omega) (by omega) (rf_f_tr hM e3)
      push_cast at up
      refine ⟨fun hc => up.1 (by omega), fun hc => ?_⟩
      obtain ⟨K, fu2, k1, k2, k3, k4⟩ := up.2 (by omega)
      exact ⟨K, fu2, by omega, k2, k3, k4⟩
    · rw [if_neg hd] at e2
      rw [if_neg hd, if_pos e2]
      refine ⟨fun hc => absurd hc (by omega), fun _ => ?_⟩
      obtain ⟨r2, K, k1, k2, k3⟩ := rf_goesOut (M := N) (by rw [eN]; exact h) (p := k) (by rw [eN]; omega)
      rw [eN] at k2
      exact ⟨K, fu, by omega, rf_g_tr (rf_g_f (rf_f_tr hM e3)) (rf_g_1 k3), k2, by rw [k1]; rfl⟩
theorem ms_se_ok : ∀ (q : Nat) {S : Nat → Int}, ms_ok S → ms_ok (ms_se q S)
  | 0, _, h => h
  | q + 1, S, h => by
    rw [ms_se]
    split
    · rename_i hc
      exact ms_se_ok q (ms_go_ok h hc)
    · exact h
theorem ms_st_ok {S : Nat → Int} (h : ms_ok S) : ms_ok (ms_st S) := ms_se_ok 9 h
theorem rf_settle_q : ∀ (q fu : Nat) (M : sd_M), ms_ok (M 341) → M 341 60 ≤ q → 10 * q + 10 ≤ fu → ms_T (f_X10_settlesAll_2 fu 0 M) (fun _ N => N 341 = ms_se q (M 341) ∧ rf_g M N) := by
  intro q
  induction q with
  | zero =>
    intro fu M h hq hf
    have l := ms_lines h
    obtain ⟨fu, rfl⟩ : ∃ g, fu = g + 1 := ⟨fu - 1, by omega⟩
    rw [f_X10_settlesAll_2, if_pos (by omega)]
    exact ms_t_r ⟨rfl, rf_g_rf⟩
  | succ q ih =>
    intro fu M h hq hf
    have l := ms_lines h
    have a := rf_settle_l h (M 341 60).toNat 0 fu M (by omega) (by omega) rf_f_rf
    have b := ms_fs_b (S := M 341) (M 341 60).toNat 0
    rw [ms_se]
    unfold ms_f0
    by_cases c : ms_fs (M 341) (M 341 60).toNat 0 = 0 + (M 341 60).toNat
    · rw [if_neg (by omega)]
      exact ms_t_w (a.1 c) (fun r N hN => ⟨rf_f_41 hN, rf_g_f hN⟩)
    · obtain ⟨N, fu2, n1, n2, n3, n4⟩ := a.2 (by omega)
      rw [if_pos (by omega)]
      have n5 : f_X10_settlesAll_2 fu 0 M = _ := n4
      rw [n5]
      have ok : ms_ok (N 341) := by
        rw [n3]
        exact ms_go_ok h (by omega)
      rw [← n3]
      exact ms_t_w (ih fu2 N ok (by rw [n3, ms_go_60]; omega) (by omega)) (fun r K hK => ⟨hK.1, rf_g_tr n2 hK.2⟩)
theorem rf_settlesAll {M : sd_M} (h : ms_ok (M 341)) : ms_T (f_X10_settlesAll M) (fun _ N => N 341 = ms_st (M 341) ∧ rf_g M N) := by
  have l := ms_lines h
  exact rf_settle_q 9 4000 M h (by omega) (by omega)
/-- one is taken -/
def ms_tk (S : Nat → Int) (f : Int) : Nat → Int := ms_u (ms_u (ms_u S (71 + f.toNat) 1) (89 + (S 60).toNat) f) 60 (S 60 + 1)
theorem ms_cw_1 {S : Nat → Int} {f : Nat} (h : S (71 + f) = 0) : ∀ n, f < n → ms_cw (ms_u S (71 + f) 1) n = ms_cw S n - 1
  | 0, h => absurd h (by omega)
  | n + 1, hn => by
    rw [ms_cw, ms_cw]
    by_cases c : f = n
    · subst c
      rw [ms_u_at, if_neg (by omega), if_pos h, ms_cw_c (S := ms_u S (71 + f) 1) (T := S) f (fun i hi => by rw [ms_u_ne (by omega)])]
      omega
    · rw [ms_cw_1 h n (by omega), ms_u_ne (by omega)]
      omega
theorem ms_cw_f {S : Nat → Int} {f : Nat} (h : S (71 + f) = 0) : ∀ n, f < n → 1 ≤ ms_cw S n
  | 0, h => absurd h (by omega)
  | n + 1, hn => by
    have := ms_cw_ge (S := S) n
    rw [ms_cw]
    by_cases c : f = n
    · subst c
      rw [if_pos h]
      omega
    · have := ms_cw_f h n (by omega)
      split <;> omega
theorem rf_takes {M : sd_M} (h : ms_ok (M 341)) {f : Int} (hf : (0 ≤ f ∧ f < M 341 2) ∧ M 341 (71 + f.toNat) = 0) : ms_T (f_X10_takes f M) (fun _ N => N 341 = ms_tk (M 341) f ∧ ∀ a, a ≠ 341 → N a = M a) := by
  have l := ms_lines h
  have w := ms_cw_f hf.2 (M 341 2).toNat (by omega)
  have w2 := h.2.1
  have e60 : sd_s M 341 (71 + f.toNat) 1 341 60 = M 341 60 := sd_s_j (by omega)
  have e61 : sd_s (sd_s M 341 (71 + f.toNat) 1) 341 (89 + (M 341 60).toNat) f 341 60 = M 341 60 := by rw [sd_s_j (by omega), e60]
  unfold f_X10_takes
  rw [sd_wid (z := 71 + f) (by omega) (by omega), if_pos (by omega), sd_tn71 hf.1.1, e60, sd_wid (z := 89 + M 341 60) (by omega) (by omega), if_pos (by omega), sd_tn89 l.1, e61, sd_wid (by omega) (by omega)]
  refine ms_t_r ⟨?_, fun a ha => by rw [sd_s_a ha, sd_s_a ha, sd_s_a ha]⟩
  rw [sd_s_row, sd_s_row, sd_s_row]
  rfl
theorem ms_tk_ok {S : Nat → Int} (h : ms_ok S) {f : Int} (hf : (0 ≤ f ∧ f < S 2) ∧ S (71 + f.toNat) = 0) : ms_ok (ms_tk S f) := by
  have l := ms_lines h
  have w := ms_cw_f hf.2 (S 2).toNat (by omega)
  have e1 := ms_cw_1 hf.2 (S 2).toNat (by omega)
  obtain ⟨t, h1, h2, h3, h4, h5, h6, h7⟩ := h
  have o : ∀ i, i ≠ 60 → i ≠ 89 + (S 60).toNat → i ≠ 71 + f.toNat → ms_tk S f i = S i := fun i a b c => by
    unfold ms_tk
    rw [ms_u_ne a, ms_u_ne b, ms_u_ne c]
  have e60 : ms_tk S f 60 = S 60 + 1 := ms_u_at
  have e71 : ms_tk S f (71 + f.toNat) = 1 := by
    unfold ms_tk
    rw [ms_u_ne (by omega), ms_u_ne (by omega), ms_u_at]
  have e89 : ms_tk S f (89 + (S 60).toNat) = f := by
    unfold ms_tk
    rw [ms_u_ne (by omega), ms_u_at]
  have cw : ms_cw (ms_tk S f) (S 2).toNat = ms_cw S (S 2).toNat - 1 := by
    rw [← e1]
    refine ms_cw_c _ (fun i hi => ?_)
    unfold ms_tk
    rw [ms_u_ne (by omega), ms_u_ne (by omega)]
  have e2 : ms_tk S f 2 = S 2 := o 2 (by omega) (by omega) (by omega)
  refine ⟨ms_tl_c (fun i hi => o i (by omega) (by omega) (by omega)) t, ?_, ?_, ?_, ?_, ?_, ?_, ?_⟩
  · rw [e2, cw, e60, o 61 (by omega) (by omega) (by omega)]
    omega
  · rw [o 59 (by omega) (by omega) (by omega), o 0 (by omega) (by omega) (by omega)]
    exact h2
  · intro g hg
    rw [e2] at hg
    have a := h3 g hg
    rw [o (62 + g) (by omega) (by omega) (by omega), o (80 + g) (by omega) (by omega) (by omega)]
    refine ⟨a.1, ?_, a.2.2⟩
    by_cases c : g = f.toNat
    · subst c; rw [e71]; omega
    · rw [o (71 + g) (by omega) (by omega) (by omega)]; exact a.2.1
  · intro g hg h9
    rw [e2] at hg
    rw [o (71 + g) (by omega) (by omega) (by omega)]
    exact h4 g hg h9
  · intro k hk
    rw [e60] at hk
    rw [e2]
    by_cases c : k = (S 60).toNat
    · subst c
      rw [e89, e71]
      omega
    · have b := h5 k (by omega)
      rw [o (89 + k) (by omega) (by omega) (by omega)]
      refine ⟨b.1, b.2.1, ?_⟩
      rw [o _ (by omega) (by omega) ?_]
      · exact b.2.2
      · intro e
        have : (S (89 + k)).toNat = f.toNat := by omega
        rw [this] at b
        omega
  · have q : ∀ k : Nat, (k : Int) < S 60 → ms_tk S f (89 + k) = S (89 + k) ∧ S (89 + k) ≠ f := fun k hk => by
      have b := h5 k hk
      refine ⟨o _ (by omega) (by omega) (by omega), fun e => ?_⟩
      rw [e] at b
      omega
    intro j k hj hk
    rw [e60] at hj hk
    by_cases c : j = (S 60).toNat
    · by_cases d : k = (S 60).toNat
      · omega
      · subst c
        rw [e89, (q k (by omega)).1]
        intro e
        exact absurd e.symm (q k (by omega)).2
    · by_cases d : k = (S 60).toNat
      · subst d
        rw [e89, (q j (by omega)).1]
        intro e
        exact absurd e (q j (by omega)).2
      · rw [(q j (by omega)).1, (q k (by omega)).1]
        exact h6 j k (by omega) (by omega)
  · intro g hg
    rw [e2] at hg
    by_cases c : g = f.toNat
    · intro _
      exact ⟨(S 60).toNat, by rw [e60]; omega, by rw [e89]; omega⟩
    · rw [o (71 + g) (by omega) (by omega) (by omega)]
      intro e
      obtain ⟨k, hk, ek⟩ := h7 g hg e
      exact ⟨k, by rw [e60]; omega, by rw [o (89 + k) (by omega) (by omega) (by omega)]; exact ek⟩
