/-! the reference parts -/
def rf_f3 (M N : sd_M) : Prop := ∀ a, a ≠ 343 → N a = M a
theorem rf_parts_7 {M : sd_M} {n : Nat} {much : Int} (hn : M 341 60 = n) (hz : ms_sz much (M 342) n) (kk : Int → Int → Int → sd_M → Option (Int × sd_M)) (z : Int) : ∀ (m k fu : Nat), k + m = n → m < fu → f_X10_parts_7 kk fu much (ms_sum (M 342) k) z (k : Int) M = kk much (ms_sum (M 342) n) z M := by
  have l := hz.1
  intro m
  induction m with
  | zero =>
    intro k fu hk hf
    obtain ⟨fu, rfl⟩ : ∃ g, fu = g + 1 := ⟨fu - 1, by omega⟩
    rw [f_X10_parts_7, if_pos (by omega)]
    rw [show k = n by omega]
  | succ m ih =>
    intro k fu hk hf
    obtain ⟨fu, rfl⟩ : ∃ g, fu = g + 1 := ⟨fu - 1, by omega⟩
    have e := ih (k + 1) fu (by omega) (by omega)
    have a := hz.2 k (by omega)
    have b := ms_sum_b (w := M 342) (a := 0) (b := 999) k (fun j hj => hz.2 j (by omega))
    rw [f_X10_parts_7]
    simp (disch := omega) only [if_neg, if_pos, sd_wid, Int.toNat_natCast]
    rw [ms_sum] at e
    push_cast at e
    exact e
def ms_fz (much : Int) (w : Nat → Int) (n : Nat) (k : Nat) : Int := if ms_sum w n = 0 then 0 else ms_fl much w n k
theorem ms_tdiv {a b : Int} (h : 0 ≤ a) : Int.tdiv a b = a / b := Int.tdiv_eq_ediv_of_nonneg h
theorem ms_tmod {a b : Int} (h : 0 ≤ a) : Int.tmod a b = a % b := Int.tmod_eq_emod_of_nonneg h
theorem ms_fz_b {much : Int} {w : Nat → Int} {n k : Nat} (h : ms_sz much w n) (hk : k < n) : 0 ≤ ms_fz much w n k ∧ ms_fz much w n k ≤ 9999 := by
  have l := h.1
  unfold ms_fz
  split
  · omega
  · have := ms_sz_s h
    have := ms_sz_f h (by omega) hk
    omega
theorem rf_parts_38 {M0 : sd_M} {n : Nat} {much : Int} (hn : M0 341 60 = n) (hz : ms_sz much (M0 342) n) (kk : Int → Int → Int → sd_M → Option (Int × sd_M)) : ∀ (m k fu : Nat) (M : sd_M), k + m = n → m < fu → rf_f3 M0 M → (∀ j, j < k → M 343 j = ms_fz much (M0 342) n j) → ∃ N, rf_f3 M0 N ∧ (∀ j, j < n → N 343 j = ms_fz much (M0 342) n j) ∧ f_X10_parts_38 kk fu much (ms_sum (M0 342) n) (much - ms_sum (ms_fz much (M0 342) n) k) (k : Int) M = kk much (ms_sum (M0 342) n) (much - ms_sum (ms_fz much (M0 342) n) n) N := by
  have l := hz.1
  intro m
  induction m with
  | zero =>
    intro k fu M hk hf hM hP
    obtain ⟨fu, rfl⟩ : ∃ g, fu = g + 1 := ⟨fu - 1, by omega⟩
    obtain rfl : k = n := by omega
    refine ⟨M, hM, hP, ?_⟩
    rw [f_X10_parts_38, hM 341 (by omega), if_pos (by omega)]
  | succ m ih =>
    intro k fu M hk hf hM hP
    obtain ⟨fu, rfl⟩ : ∃ g, fu = g + 1 := ⟨fu - 1, by omega⟩
    have a := ms_sz_k hz (k := k) (by omega)
    have s := ms_sz_s hz
    have b := ms_sum_b (w := ms_fz much (M0 342) n) (a := 0) (b := 9999) k (fun j hj => ms_fz_b hz (by omega))
    have c := ms_fz_b hz (k := k) (by omega)
    have e : M 342 = M0 342 := hM 342 (by omega)
    have go : ∃ N, rf_f3 M0 N ∧ (∀ j, j < n → N 343 j = ms_fz much (M0 342) n j) ∧ f_X10_parts_38 kk fu much (ms_sum (M0 342) n) (much - (ms_sum (ms_fz much (M0 342) n) k + ms_fz much (M0 342) n k)) ((k : Int) + 1) (sd_s M 343 k (ms_fz much (M0 342) n k)) = kk much (ms_sum (M0 342) n) (much - ms_sum (ms_fz much (M0 342) n) n) N := by
      refine ih (k + 1) fu (sd_s M 343 k (ms_fz much (M0 342) n k)) (by omega) (by omega) (fun x hx => by rw [sd_s_a hx, hM x hx]) (fun j hj => ?_)
      by_cases ej : j = k
      · subst ej; rw [sd_s_at]
      · rw [sd_s_j ej, hP j (by omega)]
    obtain ⟨N, n1, n2, n3⟩ := go
    refine ⟨N, n1, n2, ?_⟩
    rw [← n3, f_X10_parts_38, hM 341 (by omega), if_neg (by omega), e]
    by_cases z : ms_sum (M0 342) n = 0
    · rw [if_pos z]
      simp (disch := omega) only [if_pos, Int.toNat_natCast, f_X10_parts_75, sd_s_at]
      simp only [ms_fz, z, if_true]
      simp only [ms_fz, z, if_true] at b c
      simp (disch := omega) only [sd_wid]
      rw [Int.add_zero, Int.sub_zero]
    · have f := ms_sz_f hz (by omega) (k := k) (by omega)
      rw [if_neg z]
      have q : Int.tdiv (much * M0 342 k) (ms_sum (M0 342) n) = ms_fz much (M0 342) n k := by
        rw [ms_tdiv a.1, ms_fz, if_neg z]
        rfl
      simp (disch := omega) only [if_pos, Int.toNat_natCast, f_X10_parts_75, sd_s_at, q, sd_wid, Int.sub_sub]
theorem rf_parts_130 {M : sd_M} {n : Nat} {much : Int} (hn : M 341 60 = n) (hz : ms_sz much (M 342) n) (hs : 0 < ms_sum (M 342) n) (kk : Int → Int → Int → Int → Int → sd_M → Option (Int × sd_M)) (z : Int) {k : Nat} (hk : k < n) : ∀ (m o fu : Nat), o + m = n → m < fu → f_X10_parts_130 kk fu much (ms_sum (M 342) n) z k (ms_rk (ms_rm much (M 342) n) k o) (ms_rm much (M 342) n k) (o : Int) M = kk much (ms_sum (M 342) n) z k (ms_rk (ms_rm much (M 342) n) k n) M := by
  have l := hz.1
  intro m
  induction m with
  | zero =>
    intro o fu ho hf
    obtain ⟨fu, rfl⟩ : ∃ g, fu = g + 1 := ⟨fu - 1, by omega⟩
    rw [f_X10_parts_130, if_pos (by omega)]
    rw [show o = n by omega]
  | succ m ih =>
    intro o fu ho hf
    obtain ⟨fu, rfl⟩ : ∃ g, fu = g + 1 := ⟨fu - 1, by omega⟩
    have e := ih (o + 1) fu (by omega) (by omega)
    have a := ms_sz_k hz (k := o) (by omega)
    have b := ms_rk_b (r := ms_rm much (M 342) n) (k := k) o
    have q : Int.tmod (much * M 342 o) (ms_sum (M 342) n) = ms_rm much (M 342) n o := by
      rw [ms_tmod a.1]
      rfl
    rw [ms_rk] at e
    push_cast at e
    rw [f_X10_parts_130]
    simp (disch := omega) only [if_neg (show ¬ M 341 60 ≤ (o : Int) by omega), if_pos (show 0 ≤ (o : Int) ∧ (o : Int) < 9 by omega), if_pos (show ms_sum (M 342) n ≠ 0 by omega), Int.toNat_natCast, f_X10_parts_178, f_X10_parts_182, f_X10_parts_183, q, sd_wid]
    split
    · rename_i hc
      rw [if_pos (Or.inl hc)] at e
      exact e
    · rename_i hc
      split
      · rename_i hd
        split
        · rename_i he
          rw [if_neg (by omega), Int.add_zero] at e
          rw [Int.add_zero]
          exact e
        · rename_i he
          rw [if_pos (by omega)] at e
          exact e
      · rename_i hd
        rw [if_neg (by omega), Int.add_zero] at e
        rw [Int.add_zero]
        exact e
theorem ms_pt_z {much : Int} {w : Nat → Int} {n k : Nat} (hs : ms_sum w n ≠ 0) : ms_pt much w n k = ms_fz much w n k + if ms_rk (ms_rm much w n) k n < ms_rs much w n then 1 else 0 := by
  unfold ms_pt ms_fz
  rw [if_neg hs, if_neg hs]
theorem rf_parts_95 {M0 : sd_M} {n : Nat} {much : Int} (hn : M0 341 60 = n) (hz : ms_sz much (M0 342) n) (hs : 0 < ms_sum (M0 342) n) : ∀ (m k fu : Nat) (M : sd_M), k + m = n → m < fu → rf_f3 M0 M → (∀ j, j < n → M 343 j = if j < k then ms_pt much (M0 342) n j else ms_fz much (M0 342) n j) → ms_T (f_X10_parts_95 fu much (ms_sum (M0 342) n) (ms_rs much (M0 342) n) (k : Int) M) (fun _ N => rf_f3 M0 N ∧ ∀ j, j < n → N 343 j = ms_pt much (M0 342) n j) := by
  have l := hz.1
  intro m
  induction m with
  | zero =>
    intro k fu M hk hf hM hP
    obtain ⟨fu, rfl⟩ : ∃ g, fu = g + 1 := ⟨fu - 1, by omega⟩
    obtain rfl : k = n := by omega
    rw [f_X10_parts_95, hM 341 (by omega), if_pos (by omega)]
    exact ms_t_r ⟨hM, fun j hj => by rw [hP j hj, if_pos hj]⟩
  | succ m ih =>
    intro k fu M hk hf hM hP
    obtain ⟨fu, rfl⟩ : ∃ g, fu = g + 1 := ⟨fu - 1, by omega⟩
    have a := ms_sz_k hz (k := k) (by omega)
    have e : M 342 = M0 342 := hM 342 (by omega)
    have e1 : M 341 = M0 341 := hM 341 (by omega)
    have q : Int.tmod (much * M0 342 k) (ms_sum (M0 342) n) = ms_rm much (M0 342) n k := by
      rw [ms_tmod a.1]
      rfl
    have i := rf_parts_130 (M := M) (n := n) (much := much) (by rw [e1]; exact hn) (by rw [e]; exact hz) (by rw [e]; exact hs) (f_X10_parts_192 (f_X10_parts_95 fu)) (ms_rs much (M0 342) n) (k := k) (by omega) n 0 4000 (by omega) (by omega)
    rw [e] at i
    have c := ms_fz_b hz (k := k) (by omega)
    rw [f_X10_parts_95, e1]
    simp (disch := omega) only [if_neg (show ¬ M0 341 60 ≤ (k : Int) by omega), if_neg (show ¬ ms_sum (M0 342) n ≤ 0 by omega), if_pos (show 0 ≤ (k : Int) ∧ (k : Int) < 9 by omega), if_pos (show ms_sum (M0 342) n ≠ 0 by omega), Int.toNat_natCast, e, q, sd_wid]
    have i2 : f_X10_parts_130 (f_X10_parts_192 (f_X10_parts_95 fu)) 4000 much (ms_sum (M0 342) n) (ms_rs much (M0 342) n) (k : Int) 0 (ms_rm much (M0 342) n k) 0 M = _ := i
    rw [i2, f_X10_parts_192]
    have pk := hP k (by omega)
    rw [if_neg (by omega)] at pk
    have pz := ms_pt_z (much := much) (w := M0 342) (n := n) (k := k) (by omega)
    split
    · rename_i hc
      rw [f_X10_parts_209, sd_wid (by omega) (by omega)]
      refine ih (k + 1) fu M (by omega) (by omega) hM (fun j hj => ?_)
      rw [hP j hj]
      by_cases ej : j = k
      · subst ej
        rw [if_neg (by omega), if_pos (by omega), pz, if_neg (by omega), Int.add_zero]
      · by_cases jk : j < k
        · rw [if_pos jk, if_pos (by omega)]
        · rw [if_neg jk, if_neg (by omega)]
    · rename_i hc
      simp (disch := omega) only [if_pos (show 0 ≤ (k : Int) ∧ (k : Int) < 9 by omega), Int.toNat_natCast, f_X10_parts_209, pk, sd_wid]
      refine ih (k + 1) fu _ (by omega) (by omega) (fun x hx => by rw [sd_s_a hx, hM x hx]) (fun j hj => ?_)
      by_cases ej : j = k
      · subst ej
        rw [sd_s_at, if_pos (by omega), pz, if_pos (by omega)]
      · rw [sd_s_j ej, hP j hj]
        by_cases jk : j < k
        · rw [if_pos jk, if_pos (by omega)]
        · rw [if_neg jk, if_neg (by omega)]
theorem rf_parts {M : sd_M} {n : Nat} {much : Int} (hn : M 341 60 = n) (hz : ms_sz much (M 342) n) : ms_T (f_X10_parts much M) (fun _ N => rf_f3 M N ∧ ∀ j, j < n → N 343 j = ms_pt much (M 342) n j) := by
  have l := hz.1
  unfold f_X10_parts
  have a := rf_parts_7 hn hz f_X10_parts_35 much n 0 4000 (by omega) (by omega)
  have a2 : f_X10_parts_7 f_X10_parts_35 4000 much 0 much 0 M = _ := a
  rw [a2, f_X10_parts_35]
  obtain ⟨N, n1, n2, n3⟩ := rf_parts_38 hn hz f_X10_parts_92 n 0 4000 M (by omega) (by omega) (fun _ _ => rfl) (fun j hj => absurd hj (by omega))
  have n4 : f_X10_parts_38 f_X10_parts_92 4000 much (ms_sum (M 342) n) (much - 0) 0 M = _ := n3
  rw [Int.sub_zero] at n4
  rw [n4, f_X10_parts_92]
  have s := ms_sz_s hz
  by_cases z : ms_sum (M 342) n = 0
  · rw [z]
    rw [show (4000 : Nat) = 3999 + 1 from rfl, f_X10_parts_95, if_pos (Int.le_refl 0)]
    have q : ∀ j, j < n → N 343 j = ms_pt much (M 342) n j := fun j hj => by
      rw [n2 j hj]
      unfold ms_fz ms_pt
      rw [if_pos z, if_pos z]
    split
    · exact ms_t_r ⟨n1, q⟩
    · exact ms_t_r ⟨n1, q⟩
  · have e : ms_sum (ms_fz much (M 342) n) n = ms_sum (ms_fl much (M 342) n) n := ms_sum_c n (fun k _ => by unfold ms_fz; rw [if_neg z])
    rw [e]
    refine ms_t_w (rf_parts_95 (M0 := M) hn hz (by omega) n 0 4000 N (by omega) (by omega) n1 (fun j hj => by rw [if_neg (by omega), n2 j hj])) (fun _ _ h => h)
