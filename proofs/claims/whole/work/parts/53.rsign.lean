/-! the reference signs -/
/-- what is left of the order ahead of the line at a place -/
def ms_lf (S : Nat → Int) : Nat → Int
  | 0 => S 59
  | k + 1 => ms_lf S k - if S (13 + (S (89 + k)).toNat) = 1 ∧ S (62 + (S (89 + k)).toNat) ≤ ms_lf S k then S (62 + (S (89 + k)).toNat) else 0
def ms_wt (S : Nat → Int) (k : Nat) : Int := if S (13 + (S (89 + k)).toNat) = 1 ∧ S (62 + (S (89 + k)).toNat) ≤ ms_lf S k then 0 else S (62 + (S (89 + k)).toNat)
def ms_s0 (S : Nat → Int) (k : Nat) : Int := if S (13 + (S (89 + k)).toNat) = 1 ∧ S (62 + (S (89 + k)).toNat) ≤ ms_lf S k then S (62 + (S (89 + k)).toNat) else 0
def ms_al (S : Nat → Int) : Int := ms_sum (ms_wt S) (S 60).toNat
def ms_le (S : Nat → Int) : Int := ms_lf S (S 60).toNat
/-- what is signed at a place -/
def ms_sk (S : Nat → Int) (k : Nat) : Int := if ms_wt S k ≤ 0 then S (62 + (S (89 + k)).toNat) else if ms_al S ≤ ms_le S then ms_wt S k else ms_pt (ms_le S) (ms_wt S) (S 60).toNat k
theorem ms_lf_s {S : Nat → Int} {k : Nat} : ms_lf S (k + 1) = ms_lf S k - ms_s0 S k := rfl
theorem ms_wt_b {S : Nat → Int} (h : ms_ok S) {k : Nat} (hk : (k : Int) < S 60) : 0 ≤ ms_wt S k ∧ ms_wt S k ≤ 999 := by
  have a := ms_line h hk
  unfold ms_wt
  split <;> omega
theorem ms_lf_b {S : Nat → Int} (h : ms_ok S) : ∀ k : Nat, (k : Int) ≤ S 60 → 0 ≤ ms_lf S k ∧ ms_lf S k ≤ S 59
  | 0, _ => ⟨h.2.2.1.1.1, Int.le_refl _⟩
  | k + 1, hk => by
    have a := ms_line h (k := k) (by omega)
    have b := ms_lf_b h k (by omega)
    rw [ms_lf]
    split <;> omega
theorem ms_szw {S : Nat → Int} (h : ms_ok S) : ms_sz (ms_le S) (ms_wt S) (S 60).toNat := by
  have l := ms_lines h
  have a := ms_lf_b h (S 60).toNat (by omega)
  have o := h.2.2.1
  refine ⟨⟨by omega, a.1, ?_⟩, fun k hk => ms_wt_b h (by omega)⟩
  have := a.2
  unfold ms_le
  omega
def rf_f (M N : sd_M) : Prop := ∀ a, a ≠ 342 → a ≠ 343 → a ≠ 344 → N a = M a
theorem rf_f_rf {M : sd_M} : rf_f M M := fun _ _ _ _ => rfl
theorem rf_f_tr {M N K : sd_M} (h : rf_f M N) (g : rf_f N K) : rf_f M K := fun a x y z => (g a x y z).trans (h a x y z)
theorem rf_f_3 {M N : sd_M} (h : rf_f3 M N) : rf_f M N := fun a _ y _ => h a y
theorem rf_f_41 {M N : sd_M} (h : rf_f M N) : N 341 = M 341 := h 341 (by omega) (by omega) (by omega)
theorem rf_signs_12 {M0 : sd_M} (h : ms_ok (M0 341)) (kk : Int → Int → sd_M → Option (Int × sd_M)) : ∀ (m k fu : Nat) (M : sd_M), (k : Int) + m = M0 341 60 → m < fu → rf_f M0 M → (∀ j, j < k → M 342 j = ms_wt (M0 341) j ∧ M 344 j = ms_s0 (M0 341) j) → ∃ N, rf_f M0 N ∧ (∀ j : Nat, (j : Int) < M0 341 60 → N 342 j = ms_wt (M0 341) j ∧ N 344 j = ms_s0 (M0 341) j) ∧ f_X10_signs_12 kk fu (ms_lf (M0 341) k) (ms_sum (ms_wt (M0 341)) k) (k : Int) M = kk (ms_le (M0 341)) (ms_al (M0 341)) N := by
  have l := ms_lines h
  have o := h.2.2.1
  intro m
  induction m with
  | zero =>
    intro k fu M hk hf hM hP
    obtain ⟨fu, rfl⟩ : ∃ g, fu = g + 1 := ⟨fu - 1, by omega⟩
    refine ⟨M, hM, fun j hj => hP j (by omega), ?_⟩
    rw [f_X10_signs_12, rf_f_41 hM, if_pos (by omega)]
    unfold ms_le ms_al
    rw [show (M0 341 60).toNat = k by omega]
  | succ m ih =>
    intro k fu M hk hf hM hP
    obtain ⟨fu, rfl⟩ : ∃ g, fu = g + 1 := ⟨fu - 1, by omega⟩
    have e : M 341 = M0 341 := rf_f_41 hM
    have a := ms_line h (k := k) (by omega)
    have b := ms_lf_b h k (by omega)
    have c := ms_sum_b (w := ms_wt (M0 341)) (a := 0) (b := 999) k (fun j hj => ms_wt_b h (by omega))
    have d := ms_wt_b h (k := k) (by omega)
    have go : ∃ N, rf_f M0 N ∧ (∀ j : Nat, (j : Int) < M0 341 60 → N 342 j = ms_wt (M0 341) j ∧ N 344 j = ms_s0 (M0 341) j) ∧ f_X10_signs_12 kk fu (ms_lf (M0 341) k - ms_s0 (M0 341) k) (ms_sum (ms_wt (M0 341)) k + ms_wt (M0 341) k) ((k : Int) + 1) (sd_s (sd_s M 344 k (ms_s0 (M0 341) k)) 342 k (ms_wt (M0 341) k)) = kk (ms_le (M0 341)) (ms_al (M0 341)) N := by
      refine ih (k + 1) fu _ (by omega) (by omega) (fun x h1 h2 h3 => by rw [sd_s_a h1, sd_s_a h3, hM x h1 h2 h3]) (fun j hj => ?_)
      by_cases ej : j = k
      · subst ej
        constructor
        · rw [sd_s_at]
        · rw [sd_s_a (by omega), sd_s_at]
      · rw [sd_s_j ej, sd_s_a (a := 344) (b := 342) (by omega), sd_s_a (a := 342) (b := 344) (by omega), sd_s_j ej]
        exact hP j (by omega)
    obtain ⟨N, n1, n2, n3⟩ := go
    refine ⟨N, n1, n2, ?_⟩
    rw [← n3, f_X10_signs_12, e]
    by_cases is : M0 341 (13 + (M0 341 (89 + k)).toNat) = 1 ∧ M0 341 (62 + (M0 341 (89 + k)).toNat) ≤ ms_lf (M0 341) k
    · have s0 : ms_s0 (M0 341) k = M0 341 (62 + (M0 341 (89 + k)).toNat) := if_pos is
      have w0 : ms_wt (M0 341) k = 0 := if_pos is
      rw [s0, w0]
      simp (disch := omega) only [if_neg, if_pos, sd_wid, sd_tn89, sd_tn62, sd_tn13, Int.toNat_natCast, f_X10_signs_67, f_X10_signs_93, f_X10_signs_118, sd_s_at, sd_s_a, e]
    · have s0 : ms_s0 (M0 341) k = 0 := if_neg is
      have w0 : ms_wt (M0 341) k = M0 341 (62 + (M0 341 (89 + k)).toNat) := if_neg is
      rw [s0, w0]
      rw [w0] at d
      by_cases i1 : M0 341 (13 + (M0 341 (89 + k)).toNat) = 1
      · have i2 : ms_lf (M0 341) k < M0 341 (62 + (M0 341 (89 + k)).toNat) := by omega
        simp (disch := omega) only [if_neg, if_pos, sd_wid, sd_tn89, sd_tn62, sd_tn13, Int.toNat_natCast, f_X10_signs_66, f_X10_signs_67, f_X10_signs_93, f_X10_signs_118, sd_s_at, sd_s_a, e, if_true]
      · simp (disch := omega) only [if_neg, if_pos, sd_wid, sd_tn89, sd_tn62, sd_tn13, Int.toNat_natCast, f_X10_signs_66, f_X10_signs_67, f_X10_signs_93, f_X10_signs_118, sd_s_at, sd_s_a, e, if_true]
theorem rf_signs_155 {M0 : sd_M} (h : ms_ok (M0 341)) : ∀ (m k fu : Nat) (M : sd_M), (k : Int) + m = M0 341 60 → m < fu → rf_f M0 M → (∀ j : Nat, (j : Int) < M0 341 60 → M 342 j = ms_wt (M0 341) j ∧ (ms_le (M0 341) < ms_al (M0 341) → M 343 j = ms_pt (ms_le (M0 341)) (ms_wt (M0 341)) (M0 341 60).toNat j) ∧ M 344 j = if j < k then ms_sk (M0 341) j else ms_s0 (M0 341) j) → ms_T (f_X10_signs_155 fu (ms_le (M0 341)) (ms_al (M0 341)) (k : Int) M) (fun _ N => rf_f M0 N ∧ ∀ j : Nat, (j : Int) < M0 341 60 → N 344 j = ms_sk (M0 341) j) := by
  have l := ms_lines h
  intro m
  induction m with
  | zero =>
    intro k fu M hk hf hM hP
    obtain ⟨fu, rfl⟩ : ∃ g, fu = g + 1 := ⟨fu - 1, by omega⟩
    rw [f_X10_signs_155, rf_f_41 hM, if_pos (by omega)]
    exact ms_t_r ⟨hM, fun j hj => by rw [(hP j hj).2.2, if_pos (by omega)]⟩
  | succ m ih =>
    intro k fu M hk hf hM hP
    obtain ⟨fu, rfl⟩ : ∃ g, fu = g + 1 := ⟨fu - 1, by omega⟩
    have e : M 341 = M0 341 := rf_f_41 hM
    obtain ⟨p1, p2, p3⟩ := hP k (by omega)
    rw [if_neg (by omega)] at p3
    rw [f_X10_signs_155, e, if_neg (by omega), if_pos (by omega), Int.toNat_natCast, p1]
    have go : ∀ v, v = ms_sk (M0 341) k → ms_T (f_X10_signs_200 (f_X10_signs_155 fu) (ms_le (M0 341)) (ms_al (M0 341)) (k : Int) v (k : Int) M) (fun _ N => rf_f M0 N ∧ ∀ j : Nat, (j : Int) < M0 341 60 → N 344 j = ms_sk (M0 341) j) := by
      intro v hv
      rw [f_X10_signs_200, if_pos (by omega), f_X10_signs_201, sd_wid (by omega) (by omega), Int.toNat_natCast]
      refine ih (k + 1) fu _ (by omega) (by omega) (fun x h1 h2 h3 => by rw [sd_s_a h3, hM x h1 h2 h3]) (fun j hj => ?_)
      obtain ⟨q1, q2, q3⟩ := hP j hj
      rw [sd_s_a (a := 344) (b := 342) (by omega), sd_s_a (a := 344) (b := 343) (by omega)]
      refine ⟨q1, q2, ?_⟩
      by_cases ej : j = k
      · subst ej
        rw [sd_s_at, if_pos (by omega), hv]
      · rw [sd_s_j ej, q3]
        by_cases jk : j < k
        · rw [if_pos jk, if_pos (by omega)]
        · rw [if_neg jk, if_neg (by omega)]
    split
    · rename_i hc
      rw [f_X10_signs_201, sd_wid (by omega) (by omega)]
      refine ih (k + 1) fu M (by omega) (by omega) hM (fun j hj => ?_)
      obtain ⟨q1, q2, q3⟩ := hP j hj
      refine ⟨q1, q2, ?_⟩
      rw [q3]
      by_cases ej : j = k
      · subst ej
        rw [if_neg (by omega), if_pos (by omega), ms_sk, if_pos hc]
        unfold ms_wt at hc
        unfold ms_s0
        have a := ms_line h (k := j) (by omega)
        split
        · rfl
        · rename_i hd
          rw [if_neg hd] at hc
          omega
      · by_cases jk : j < k
        · rw [if_pos jk, if_pos (by omega)]
        · rw [if_neg jk, if_neg (by omega)]
    · rename_i hc
      split
      · rename_i hd
        rw [if_pos (by omega)]
        exact go _ (by rw [ms_sk, if_neg hc, if_pos hd])
      · rename_i hd
        rw [if_pos (by omega), p2 (by omega)]
        exact go _ (by rw [ms_sk, if_neg hc, if_neg hd])
theorem ms_pt_c {much : Int} {v w : Nat → Int} {n k : Nat} (h : ∀ k, k < n → v k = w k) (hk : k < n) : ms_pt much v n k = ms_pt much w n k := by
  have e : ms_sum v n = ms_sum w n := ms_sum_c n h
  have f : ∀ j, j < n → ms_fl much v n j = ms_fl much w n j := fun j hj => by unfold ms_fl; rw [e, h j hj]
  have g : ∀ j, j < n → ms_rm much v n j = ms_rm much w n j := fun j hj => by unfold ms_rm; rw [e, h j hj]
  have r : ∀ m, m ≤ n → ms_rk (ms_rm much v n) k m = ms_rk (ms_rm much w n) k m := by
    intro m
    induction m with
    | zero => intro _; rfl
    | succ m ih => intro hm; rw [ms_rk, ms_rk, ih (by omega), g m (by omega), g k hk]
  unfold ms_pt ms_rs
  rw [e, f k hk, r n (Nat.le_refl _), ms_sum_c n f]
theorem rf_signs {M : sd_M} (h : ms_ok (M 341)) : ms_T (f_X10_signs M) (fun _ N => rf_f M N ∧ ∀ j : Nat, (j : Int) < M 341 60 → N 344 j = ms_sk (M 341) j) := by
  have l := ms_lines h
  unfold f_X10_signs
  obtain ⟨N, n1, n2, n3⟩ := rf_signs_12 h f_X10_signs_143 (M 341 60).toNat 0 4000 M (by omega) (by omega) rf_f_rf (fun j hj => absurd hj (by omega))
  have n4 : f_X10_signs_12 f_X10_signs_143 4000 (M 341 59) 0 0 M = _ := n3
  rw [n4, f_X10_signs_143]
  split
  · rename_i hc
    rw [f_X10_signs_153]
    exact rf_signs_155 h (M 341 60).toNat 0 4000 N (by omega) (by omega) n1 (fun j hj => ⟨(n2 j hj).1, fun hl => absurd hc (by omega), by rw [(n2 j hj).2, if_neg (by omega)]⟩)
  · rename_i hc
    have ez : ms_sz (ms_le (M 341)) (N 342) (M 341 60).toNat := by
      have z := ms_szw h
      exact ⟨z.1, fun k hk => by rw [(n2 k (by omega)).1]; exact z.2 k hk⟩
    refine ms_t_b (rf_parts (M := N) (n := (M 341 60).toNat) (by rw [rf_f_41 n1]; omega) ez) ?_
    intro r K hK
    obtain ⟨k1, k2⟩ := hK
    simp only []
    rw [f_X10_signs_153]
    refine rf_signs_155 h (M 341 60).toNat 0 4000 K (by omega) (by omega) (rf_f_tr n1 (rf_f_3 k1)) (fun j hj => ⟨?_, ?_, ?_⟩)
    · rw [k1 342 (by omega), (n2 j hj).1]
    · intro _
      rw [k2 j (by omega)]
      exact ms_pt_c (fun i hi => (n2 i (by omega)).1) (by omega)
    · rw [k1 344 (by omega), (n2 j hj).2, if_neg (by omega)]
