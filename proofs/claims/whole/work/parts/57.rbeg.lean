/-! the reference: all begins -/
def ms_bg (S : Nat → Int) : Nat → Int := fun i => if 62 ≤ i ∧ i < 62 + (S 2).toNat then S (i - 58) else if i = 59 then S 1 else if 58 ≤ i ∧ i < 107 then 0 else S i
theorem rf_begins_2 {M0 : sd_M} (kk : sd_M → Option (Int × sd_M)) : ∀ (m k fu : Nat) (M : sd_M), k + m = 49 → m < fu → (∀ a, a ≠ 341 → M a = M0 a) → (∀ i, M 341 i = if 58 ≤ i ∧ i < 58 + k then 0 else M0 341 i) → ∃ N, (∀ a, a ≠ 341 → N a = M0 a) ∧ (∀ i, N 341 i = if 58 ≤ i ∧ i < 107 then 0 else M0 341 i) ∧ f_X10_begins_2 kk fu (k : Int) M = kk N := by
  intro m
  induction m with
  | zero =>
    intro k fu M hk hf hM hP
    obtain ⟨fu, rfl⟩ : ∃ g, fu = g + 1 := ⟨fu - 1, by omega⟩
    obtain rfl : k = 49 := by omega
    exact ⟨M, hM, hP, by rw [f_X10_begins_2, if_pos (by omega)]⟩
  | succ m ih =>
    intro k fu M hk hf hM hP
    obtain ⟨fu, rfl⟩ : ∃ g, fu = g + 1 := ⟨fu - 1, by omega⟩
    have up := ih (k + 1) fu (sd_s M 341 (58 + k) 0) (by omega) (by omega) (fun a ha => by rw [sd_s_a ha, hM a ha]) (fun i => by
      by_cases ei : i = 58 + k
      · subst ei
        rw [sd_s_at, if_pos (by omega)]
      · rw [sd_s_j ei, hP i]
        by_cases c : 58 ≤ i ∧ i < 58 + k
        · rw [if_pos c, if_pos (by omega)]
        · rw [if_neg c, if_neg (by omega)])
    obtain ⟨N, n1, n2, n3⟩ := up
    refine ⟨N, n1, n2, ?_⟩
    push_cast at n3
    rw [← n3, f_X10_begins_2, if_neg (by omega), sd_wid (z := 58 + (k : Int)) (by omega) (by omega), if_pos (by omega), show (58 + (k : Int)).toNat = 58 + k by omega, sd_wid (by omega) (by omega)]
theorem rf_begins_39 {M0 : sd_M} {n : Nat} (hn : n ≤ 9) (h2 : M0 341 2 = n) : ∀ (m k fu : Nat) (M : sd_M), k + m = n → m < fu → (∀ a, a ≠ 341 → M a = M0 a) → (∀ i, M 341 i = if 62 ≤ i ∧ i < 62 + k then M0 341 (i - 58) else M0 341 i) → ms_T (f_X10_begins_39 fu (k : Int) M) (fun _ N => (∀ a, a ≠ 341 → N a = M0 a) ∧ ∀ i, N 341 i = if 62 ≤ i ∧ i < 62 + n then M0 341 (i - 58) else M0 341 i) := by
  intro m
  induction m with
  | zero =>
    intro k fu M hk hf hM hP
    obtain ⟨fu, rfl⟩ : ∃ g, fu = g + 1 := ⟨fu - 1, by omega⟩
    obtain rfl : k = n := by omega
    rw [f_X10_begins_39, if_pos (by rw [hP 2, if_neg (by omega)]; omega)]
    exact ms_t_r ⟨hM, hP⟩
  | succ m ih =>
    intro k fu M hk hf hM hP
    obtain ⟨fu, rfl⟩ : ∃ g, fu = g + 1 := ⟨fu - 1, by omega⟩
    have e4 : M 341 (4 + k) = M0 341 (4 + k) := by rw [hP, if_neg (by omega)]
    have up := ih (k + 1) fu (sd_s M 341 (62 + k) (M0 341 (4 + k))) (by omega) (by omega) (fun a ha => by rw [sd_s_a ha, hM a ha]) (fun i => by
      by_cases ei : i = 62 + k
      · subst ei
        rw [sd_s_at, if_pos (by omega), show 62 + k - 58 = 4 + k by omega]
      · rw [sd_s_j ei, hP i]
        by_cases c : 62 ≤ i ∧ i < 62 + k
        · rw [if_pos c, if_pos (by omega)]
        · rw [if_neg c, if_neg (by omega)])
    push_cast at up
    rw [f_X10_begins_39, if_neg (by rw [hP 2, if_neg (by omega)]; omega), sd_wid (z := 4 + (k : Int)) (by omega) (by omega), if_pos (by omega), sd_wid (z := 62 + (k : Int)) (by omega) (by omega), if_pos (by omega), show (4 + (k : Int)).toNat = 4 + k by omega, show (62 + (k : Int)).toNat = 62 + k by omega, e4, sd_wid (by omega) (by omega)]
    exact up
theorem rf_begins {M : sd_M} (h : ms_tl (M 341)) : ms_T (f_X10_begins M) (fun _ N => N 341 = ms_bg (M 341) ∧ ∀ a, a ≠ 341 → N a = M a) := by
  have t2 := h.2.1
  obtain ⟨N, n1, n2, n3⟩ := rf_begins_2 (M0 := M) f_X10_begins_24 49 0 4000 M (by omega) (by omega) (fun _ _ => rfl) (fun i => (if_neg (by omega)).symm)
  have n4 : f_X10_begins M = f_X10_begins_24 N := n3
  rw [n4, f_X10_begins_24]
  have e1 : N 341 1 = M 341 1 := by rw [n2, if_neg (by omega)]
  have e2 : N 341 2 = M 341 2 := by rw [n2, if_neg (by omega)]
  refine ms_t_w (rf_begins_39 (M0 := sd_s N 341 59 (N 341 1)) (n := (M 341 2).toNat) (by omega) (by rw [sd_s_j (by omega), e2]; omega) (M 341 2).toNat 0 4000 _ (by omega) (by omega) (fun _ _ => rfl) (fun i => (if_neg (by omega)).symm)) ?_
  intro r K hK
  refine ⟨?_, fun a ha => by rw [hK.1 a ha, sd_s_a ha, n1 a ha]⟩
  funext i
  rw [hK.2 i]
  unfold ms_bg
  split
  · rename_i hc
    rw [sd_s_j (by omega), n2, if_neg (by omega)]
  · by_cases c : i = 59
    · subst c
      rw [sd_s_at, e1, if_pos rfl]
    · rw [sd_s_j c, if_neg c, n2]
theorem ms_bg_lo {S : Nat → Int} {i : Nat} (h : i < 58) : ms_bg S i = S i := by
  unfold ms_bg
  rw [if_neg (by omega), if_neg (by omega), if_neg (by omega)]
theorem ms_bg_hi {S : Nat → Int} (h : S 2 ≤ 9) {i : Nat} (hi : 107 ≤ i) : ms_bg S i = S i := by
  unfold ms_bg
  rw [if_neg (by omega), if_neg (by omega), if_neg (by omega)]
theorem ms_bg_59 {S : Nat → Int} : ms_bg S 59 = S 1 := by
  unfold ms_bg
  rw [if_neg (by omega), if_pos rfl]
theorem ms_bg_62 {S : Nat → Int} {f : Nat} (h : (f : Int) < S 2) : ms_bg S (62 + f) = S (4 + f) := by
  unfold ms_bg
  rw [if_pos (by omega), show 62 + f - 58 = 4 + f by omega]
theorem ms_bg_0 {S : Nat → Int} (h : S 2 ≤ 9) {i : Nat} (hi : 58 ≤ i ∧ i < 107) (h59 : i ≠ 59) (h62 : ¬ (62 ≤ i ∧ i < 71)) : ms_bg S i = 0 := by
  unfold ms_bg
  rw [if_neg (by omega), if_neg h59, if_pos hi]
theorem ms_cw_0 {S : Nat → Int} : ∀ n, (∀ i, i < n → S (71 + i) = 0) → ms_cw S n = n
  | 0, _ => rfl
  | n + 1, h => by
    rw [ms_cw, ms_cw_0 n (fun i hi => h i (by omega)), if_pos (h n (by omega))]
    push_cast
    rfl
theorem ms_bg_ok {S : Nat → Int} (h : ms_tl S) : ms_ok (ms_bg S) := by
  have t := ms_tl_c (T := ms_bg S) (fun i hi => ms_bg_lo hi) h
  obtain ⟨t0, t2, t3, tf, tk, t4, t5, t6⟩ := h
  have e2 : ms_bg S 2 = S 2 := ms_bg_lo (by omega)
  have e60 : ms_bg S 60 = 0 := ms_bg_0 t2.2 (by omega) (by omega) (by omega)
  refine ⟨t, ?_, ?_, ?_, ?_, ?_, ?_, ?_⟩
  · rw [e60, ms_bg_0 t2.2 (i := 61) (by omega) (by omega) (by omega), e2, ms_cw_0 _ (fun i hi => ms_bg_0 t2.2 (by omega) (by omega) (by omega))]
    omega
  · rw [ms_bg_59, ms_bg_lo (i := 0) (by omega)]
    exact ⟨t5, t6⟩
  · intro f hf
    rw [e2] at hf
    rw [ms_bg_62 hf, ms_bg_0 t2.2 (i := 71 + f) (by omega) (by omega) (by omega), ms_bg_0 t2.2 (i := 80 + f) (by omega) (by omega) (by omega)]
    have := tf f hf
    omega
  · intro f hf h9
    exact ms_bg_0 t2.2 (by omega) (by omega) (by omega)
  · intro k hk
    rw [e60] at hk
    omega
  · intro j k hj
    rw [e60] at hj
    omega
  · intro f hf e
    rw [e2] at hf
    rw [ms_bg_0 t2.2 (i := 71 + f) (by omega) (by omega) (by omega)] at e
    omega
