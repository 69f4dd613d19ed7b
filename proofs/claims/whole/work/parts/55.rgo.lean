/-! the reference: one goes out, all settle, one is taken, all begins -/
def ms_go (S : Nat → Int) (p : Nat) (f : Int) : Nat → Int := fun i => if i = 61 then S 61 + 1 else if i = 60 then S 60 - 1 else if i = 71 + f.toNat then 2 else if i = 98 + (S 61).toNat then f else if i = 88 + (S 60).toNat then 0 else if 89 + p ≤ i ∧ i < 88 + (S 60).toNat then S (i + 1) else S i
theorem rf_goesOut_19 {S : Nat → Int} {M0 : sd_M} {n p : Nat} (hn : n < 9) (hp : p ≤ n) (h0 : M0 341 = ms_u S 60 (n : Int)) (kk : Int → sd_M → Option (Int × sd_M)) (f : Int) : ∀ (m k fu : Nat) (M : sd_M), k + m = n → p ≤ k → m < fu → (∀ a, a ≠ 341 → M a = M0 a) → (∀ i, M 341 i = if 89 + p ≤ i ∧ i < 89 + k then S (i + 1) else M0 341 i) → ∃ N, (∀ a, a ≠ 341 → N a = M0 a) ∧ (∀ i, N 341 i = if 89 + p ≤ i ∧ i < 89 + n then S (i + 1) else M0 341 i) ∧ f_X10_goesOut_19 kk fu f (k : Int) M = kk f N := by
  have r60 : ∀ (k : Nat) (M : sd_M), k ≤ n → (∀ i, M 341 i = if 89 + p ≤ i ∧ i < 89 + k then S (i + 1) else M0 341 i) → M 341 60 = n := fun k M hk hP => by
    rw [hP 60, if_neg (by omega), h0, ms_u_at]
  intro m
  induction m with
  | zero =>
    intro k fu M hk hpk hf hM hP
    obtain ⟨fu, rfl⟩ : ∃ g, fu = g + 1 := ⟨fu - 1, by omega⟩
    obtain rfl : k = n := by omega
    refine ⟨M, hM, hP, ?_⟩
    rw [f_X10_goesOut_19, if_pos (by rw [r60 k M (by omega) hP]; omega)]
  | succ m ih =>
    intro k fu M hk hpk hf hM hP
    obtain ⟨fu, rfl⟩ : ∃ g, fu = g + 1 := ⟨fu - 1, by omega⟩
    have e60 := r60 k M (by omega) hP
    have up := ih (k + 1) fu (sd_s M 341 (89 + k) (S (89 + k + 1))) (by omega) (by omega) (by omega) (fun a ha => by rw [sd_s_a ha, hM a ha]) (fun i => by
      by_cases ei : i = 89 + k
      · subst ei
        rw [sd_s_at, if_pos (by omega)]
      · rw [sd_s_j ei, hP i]
        by_cases c : 89 + p ≤ i ∧ i < 89 + k
        · rw [if_pos c, if_pos (by omega)]
        · rw [if_neg c, if_neg (by omega)])
    obtain ⟨N, n1, n2, n3⟩ := up
    refine ⟨N, n1, n2, ?_⟩
    push_cast at n3
    have e1 : M 341 (89 + k + 1) = S (89 + k + 1) := by
      rw [hP, if_neg (by omega), h0, ms_u_ne (by omega)]
    rw [← n3, f_X10_goesOut_19, e60, if_neg (by omega), sd_wid (z := 89 + (k : Int)) (by omega) (by omega), sd_wid (z := 89 + (k : Int) + 1) (by omega) (by omega), if_pos (by omega), if_pos (by omega), show (89 + (k : Int) + 1).toNat = 89 + k + 1 by omega, show (89 + (k : Int)).toNat = 89 + k by omega, e1, sd_wid (by omega) (by omega)]
theorem rf_goesOut_56 {N : sd_M} {f a : Int} {n : Nat} (hn : n < 9) (hf : 0 ≤ f ∧ f < 9) (ha : 0 ≤ a ∧ a < 9) (e60 : N 341 60 = n) (e61 : N 341 61 = a) : f_X10_goesOut_56 f N = some (0, sd_s (sd_s (sd_s (sd_s N 341 (89 + n) 0) 341 (71 + f.toNat) 2) 341 (98 + a.toNat) f) 341 61 (a + 1)) := by
  have a1 : (89 + (n : Int)).toNat = 89 + n := by omega
  have a2 : (71 + f).toNat = 71 + f.toNat := by omega
  have a3 : (98 + a).toNat = 98 + a.toNat := by omega
  rw [f_X10_goesOut_56, e60, sd_wid (z := 89 + (n : Int)) (by omega) (by omega), sd_wid (z := 71 + f) (by omega) (by omega), a1, a2]
  rw [show sd_s (sd_s N 341 (89 + n) 0) 341 (71 + f.toNat) 2 341 61 = a by rw [sd_s_j (by omega), sd_s_j (by omega), e61]]
  rw [sd_wid (z := 98 + a) (by omega) (by omega), a3]
  rw [show sd_s (sd_s (sd_s N 341 (89 + n) 0) 341 (71 + f.toNat) 2) 341 (98 + a.toNat) f 341 61 = a by rw [sd_s_j (by omega), sd_s_j (by omega), sd_s_j (by omega), e61]]
  rw [sd_wid (by omega) (by omega), if_pos (by omega), if_pos (by omega), if_pos (by omega)]
theorem rf_goesOut_r {M N : sd_M} {f a : Int} {n p : Nat} (hn : n < 9) (hf : 0 ≤ f ∧ f < 9) (ha : 0 ≤ a ∧ a < 9) (h60 : M 341 60 = n + 1) (h61 : M 341 61 = a) (e60 : N 341 60 = n) (n2 : ∀ i, N 341 i = if 89 + p ≤ i ∧ i < 89 + n then M 341 (i + 1) else sd_s M 341 60 (n : Int) 341 i) : (sd_s (sd_s (sd_s (sd_s N 341 (89 + n) 0) 341 (71 + f.toNat) 2) 341 (98 + a.toNat) f) 341 61 (a + 1)) 341 = ms_go (M 341) p f := by
  funext i
  unfold ms_go
  rw [show 88 + (M 341 60).toNat = 89 + n by omega, h61, h60]
  by_cases c1 : i = 61
  · subst c1; rw [sd_s_at, if_pos rfl]
  rw [sd_s_j c1, if_neg c1]
  by_cases c2 : i = 60
  · subst c2; rw [sd_s_j (by omega), sd_s_j (by omega), sd_s_j (by omega), e60, if_pos rfl]; omega
  rw [if_neg c2]
  by_cases c3 : i = 71 + f.toNat
  · subst c3; rw [sd_s_j (by omega), sd_s_at, if_pos rfl]
  rw [if_neg c3]
  by_cases c4 : i = 98 + a.toNat
  · subst c4; rw [sd_s_at, if_pos rfl]
  rw [sd_s_j c4, sd_s_j c3, if_neg c4]
  by_cases c5 : i = 89 + n
  · subst c5; rw [sd_s_at, if_pos rfl]
  rw [sd_s_j c5, if_neg c5, n2]
  split
  · rfl
  · rw [sd_s_j c2]
theorem rf_goesOut {M : sd_M} (h : ms_ok (M 341)) {p : Nat} (hp : (p : Int) < M 341 60) : ms_T (f_X10_goesOut (M 341 (89 + p)) M) (fun _ N => N 341 = ms_go (M 341) p (M 341 (89 + p)) ∧ ∀ a, a ≠ 341 → N a = M a) := by
  have l := ms_lines h
  have li := ms_line h hp
  have w := h.2.1
  have w2 := ms_cw_ge (S := M 341) (M 341 2).toNat
  obtain ⟨n, hn⟩ : ∃ n : Nat, M 341 60 = n + 1 := ⟨(M 341 60).toNat - 1, by omega⟩
  have e1 : sd_w (M 341 60 - 1) = (n : Int) := by rw [sd_wid (by omega) (by omega)]; omega
  obtain ⟨N, n1, n2, n3⟩ := rf_goesOut_19 (S := M 341) (M0 := sd_s M 341 60 (n : Int)) (n := n) (p := p) (by omega) (by omega) sd_s_row f_X10_goesOut_56 (M 341 (89 + p)) (n - p) p 4000 (sd_s M 341 60 (n : Int)) (by omega) (by omega) (by omega) (fun _ _ => rfl) (fun i => (if_neg (by omega)).symm)
  have e60 : N 341 60 = n := by
    rw [n2, if_neg (by omega), sd_s_at]
  have e61 : N 341 61 = M 341 61 := by
    rw [n2, if_neg (by omega), sd_s_j (by omega)]
  have q := rf_goesOut_56 (f := M 341 (89 + p)) (by omega) (by omega) (by omega) e60 e61
  have q0 : f_X10_goesOut (M 341 (89 + p)) M = f_X10_goesOut_19 f_X10_goesOut_56 4000 (M 341 (89 + p)) (p : Int) (sd_s M 341 60 (n : Int)) := by
    rw [f_X10_goesOut, rf_placeOf h hp rfl, Option.bind_some, e1]
  rw [q0, n3, q]
  refine ms_t_r ⟨rf_goesOut_r (by omega) (by omega) (by omega) hn rfl e60 n2, fun a ha => by rw [sd_s_a ha, sd_s_a ha, sd_s_a ha, sd_s_a ha, n1 a ha, sd_s_a ha]⟩
theorem ms_go_60 {S : Nat → Int} {p : Nat} {f : Int} : ms_go S p f 60 = S 60 - 1 := by simp [ms_go]
theorem ms_go_61 {S : Nat → Int} {p : Nat} {f : Int} : ms_go S p f 61 = S 61 + 1 := by simp [ms_go]
theorem ms_go_lo {S : Nat → Int} {p : Nat} {f : Int} (h : 1 ≤ S 60) {i : Nat} (hi : i < 60) : ms_go S p f i = S i := by
  unfold ms_go
  rw [if_neg (by omega), if_neg (by omega), if_neg (by omega), if_neg (by omega), if_neg (by omega), if_neg (by omega)]
theorem ms_go_62 {S : Nat → Int} {p : Nat} {f : Int} (h : 1 ≤ S 60) {i : Nat} (hi : i < 9) : ms_go S p f (62 + i) = S (62 + i) := by
  unfold ms_go
  rw [if_neg (by omega), if_neg (by omega), if_neg (by omega), if_neg (by omega), if_neg (by omega), if_neg (by omega)]
theorem ms_go_80 {S : Nat → Int} {p : Nat} {f : Int} (h : 1 ≤ S 60) (hf : f < 9) {i : Nat} (hi : i < 9) : ms_go S p f (80 + i) = S (80 + i) := by
  unfold ms_go
  rw [if_neg (by omega), if_neg (by omega), if_neg (by omega), if_neg (by omega), if_neg (by omega), if_neg (by omega)]
theorem ms_go_71 {S : Nat → Int} {p : Nat} {f : Int} (h : 1 ≤ S 60) {i : Nat} (hi : i < 9) : ms_go S p f (71 + i) = if i = f.toNat then 2 else S (71 + i) := by
  unfold ms_go
  rw [if_neg (by omega), if_neg (by omega)]
  by_cases c : i = f.toNat
  · rw [if_pos (by omega), if_pos c]
  · rw [if_neg (by omega), if_neg c, if_neg (by omega), if_neg (by omega), if_neg (by omega)]
theorem ms_go_89 {S : Nat → Int} {p : Nat} {f : Int} (h : S 60 ≤ 9) (hf : f < 9) {k : Nat} (hk : (k : Int) < S 60 - 1) : ms_go S p f (89 + k) = if p ≤ k then S (89 + (k + 1)) else S (89 + k) := by
  unfold ms_go
  rw [if_neg (by omega), if_neg (by omega), if_neg (by omega), if_neg (by omega), if_neg (by omega)]
  by_cases c : p ≤ k
  · rw [if_pos (by omega), if_pos c, Nat.add_assoc]
  · rw [if_neg (by omega), if_neg c]
theorem ms_go_98 {S : Nat → Int} {p : Nat} {f : Int} (h : 0 ≤ S 60 ∧ S 60 ≤ 9) (hf : f < 9) {k : Nat} : ms_go S p f (98 + k) = if k = (S 61).toNat then f else S (98 + k) := by
  unfold ms_go
  rw [if_neg (by omega), if_neg (by omega), if_neg (by omega)]
  by_cases c : k = (S 61).toNat
  · rw [if_pos (by omega), if_pos c]
  · rw [if_neg (by omega), if_neg (by omega), if_neg (by omega), if_neg c]
theorem ms_go_hi {S : Nat → Int} {p : Nat} {f : Int} (h : 0 ≤ S 60 ∧ S 60 ≤ 9) (h2 : 0 ≤ S 61 ∧ S 61 < 9) (hf : f < 9) {k : Nat} (hk : 107 ≤ k) : ms_go S p f k = S k := by
  unfold ms_go
  rw [if_neg (by omega), if_neg (by omega), if_neg (by omega), if_neg (by omega), if_neg (by omega), if_neg (by omega)]
theorem ms_cw_c {S T : Nat → Int} : ∀ n, (∀ i, i < n → (S (71 + i) = 0 ↔ T (71 + i) = 0)) → ms_cw S n = ms_cw T n
  | 0, _ => rfl
  | n + 1, h => by
    rw [ms_cw, ms_cw, ms_cw_c n (fun i hi => h i (by omega))]
    have := h n (by omega)
    by_cases c : S (71 + n) = 0
    · rw [if_pos c, if_pos (this.mp c)]
    · rw [if_neg c, if_neg (fun d => c (this.mpr d))]
/-- the told part alike -/
theorem ms_tl_c {S T : Nat → Int} (h : ∀ i, i < 58 → T i = S i) (hS : ms_tl S) : ms_tl T := by
  obtain ⟨t0, t2, t3, tf, tk, t4, t5, t6⟩ := hS
  refine ⟨by rw [h 0 (by omega)]; exact t0, by rw [h 2 (by omega)]; exact t2, by rw [h 3 (by omega)]; exact t3, ?_, ?_, by rw [h 0 (by omega), h 2 (by omega)]; exact t4, by rw [h 1 (by omega)]; exact t5, by rw [h 0 (by omega), h 1 (by omega)]; exact t6⟩
  · intro f hf
    rw [h 2 (by omega)] at hf
    rw [h (4 + f) (by omega), h (13 + f) (by omega)]
    exact tf f hf
  · intro k hk
    rw [h 3 (by omega)] at hk
    rw [h (22 + 3 * k) (by omega), h (23 + 3 * k) (by omega), h (24 + 3 * k) (by omega), h 2 (by omega)]
    exact tk k hk
theorem ms_go_ok {S : Nat → Int} (h : ms_ok S) {p : Nat} (hp : (p : Int) < S 60) : ms_ok (ms_go S p (S (89 + p))) := by
  have l := ms_lines h
  have li := ms_line h hp
  obtain ⟨t, h1, h2, h3, h4, h5, h6, h7⟩ := h
  have hp1 : 1 ≤ S 60 := by omega
  have cw : ms_cw (ms_go S p (S (89 + p))) (S 2).toNat = ms_cw S (S 2).toNat := by
    refine ms_cw_c _ (fun i hi => ?_)
    rw [ms_go_71 hp1 (by omega)]
    split
    · rename_i e
      subst e
      rw [li.2.1]
      omega
    · exact Iff.rfl
  have e2 : ms_go S p (S (89 + p)) 2 = S 2 := ms_go_lo hp1 (by omega)
  refine ⟨ms_tl_c (fun i hi => ms_go_lo hp1 (by omega)) t, ?_, ?_, ?_, ?_, ?_, ?_, ?_⟩
  · rw [e2, cw, ms_go_60, ms_go_61]
    omega
  · rw [ms_go_lo (i := 59) hp1 (by omega), ms_go_lo (i := 0) hp1 (by omega)]
    exact h2
  · intro f hf
    rw [e2] at hf
    have a := h3 f hf
    rw [ms_go_62 hp1 (by omega), ms_go_71 hp1 (by omega), ms_go_80 hp1 (by omega) (by omega)]
    refine ⟨a.1, ?_, a.2.2⟩
    split
    · omega
    · exact a.2.1
  · intro f hf h9
    rw [e2] at hf
    rw [ms_go_71 hp1 (by omega), if_neg (by omega)]
    exact h4 f hf h9
  · intro k hk
    rw [ms_go_60] at hk
    rw [ms_go_89 (by omega) (by omega) hk, e2]
    have go : ∀ j : Nat, (j : Int) < S 60 → j ≠ p → 0 ≤ S (89 + j) ∧ S (89 + j) < S 2 ∧ ms_go S p (S (89 + p)) (71 + (S (89 + j)).toNat) = 1 := by
      intro j hj hne
      have b := h5 j hj
      refine ⟨b.1, b.2.1, ?_⟩
      rw [ms_go_71 hp1 (by omega), if_neg ?_]
      · exact b.2.2
      · intro e
        exact hne (h6 j p hj hp (by omega))
    split
    · exact go (k + 1) (by omega) (by omega)
    · exact go k (by omega) (by omega)
  · intro j k hj hk
    rw [ms_go_60] at hj hk
    rw [ms_go_89 (by omega) (by omega) hj, ms_go_89 (by omega) (by omega) hk]
    split <;> split <;> intro e
    · have := h6 (j + 1) (k + 1) (by omega) (by omega) e
      omega
    · have := h6 (j + 1) k (by omega) (by omega) e
      omega
    · have := h6 j (k + 1) (by omega) (by omega) e
      omega
    · exact h6 j k (by omega) (by omega) e
  · intro f hf
    rw [e2] at hf
    rw [ms_go_71 hp1 (by omega)]
    split
    · intro e; omega
    · rename_i hne
      intro e
      obtain ⟨k, hk, ek⟩ := h7 f hf e
      have kp : k ≠ p := fun e => by subst e; omega
      by_cases c : p < k
      · refine ⟨k - 1, by rw [ms_go_60]; omega, ?_⟩
        rw [ms_go_89 (by omega) (by omega) (by omega), if_pos (by omega), show k - 1 + 1 = k by omega]
        exact ek
      · refine ⟨k, by rw [ms_go_60]; omega, ?_⟩
        rw [ms_go_89 (by omega) (by omega) (by omega), if_neg (by omega)]
        exact ek
