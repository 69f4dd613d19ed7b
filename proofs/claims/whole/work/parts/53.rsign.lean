/-! the reference signs -/
/-- what is left of the order ahead of the line at a place -/
def ms_lf (S : Nat → Int) : Nat → Int
  | 0 => S 59
  | k + 1 => ms_lf S k - if S (13 + (S (89 + k)).toNat) = 1 ∧ S (62 + (S (89 + k)).toNat) ≤ ms_lf S k then S (62 + (S (89 + k)).toNat) else 0
def ms_wt (S : Nat → Int) (k : Nat) : Int := if S (13 + (S (89 + k)).toNat) = 1 ∧ S (62 + (S (89 + k)).toNat) ≤ ms_lf S k then 0 else S (62 + (S (89 + k)).toNat)
def ms_s0 (S : Nat → Int) (k : Nat) : Int := if S (13 + (S (89 + k)).toNat) = 1 ∧ S (62 + (S (89 + k)).toNat) ≤ ms_lf S k then S (62 + (S (89 + k)).toNat) else 0
def ms_al (S : Nat → Int) : Int := ms_sum (ms_wt S) (S 60).toNat
def ms_le (S : Nat → Int) : Int := ms_lf S (S 60).toNat
/-- what is signed at a place -/
def ms_sk (S : Nat → Int) (k : Nat) : Int := if ms_wt S k ≤ 0 then S (62 + (S (89 + k)).toNat) else if ms_al S ≤ ms_le S then ms_wt S k else ms_pt (ms_le S) (ms_wt S) (S 60).toNat k
theorem ms_lf_s {S : Nat → Int} {k : Nat} : ms_lf S (k + 1) = ms_lf S k - ms_s0 S k := rfl
theorem ms_wt_b {S : Nat → Int} (h : ms_ok S) {k : Nat} (hk : (k : Int) < S 60) : 0 ≤ ms_wt S k ∧ ms_wt S k ≤ 999 := by
  have a := ms_line h hk
  unfold ms_wt
  split <;> omega
theorem ms_lf_b {S : Nat → Int} (h : ms_ok S) : ∀ k : Nat, (k : Int) ≤ S 60 → 0 ≤ ms_lf S k ∧ ms_lf S k ≤ S 59
  | 0, _ => ⟨h.2.2.1.1.1, Int.le_refl _⟩
  | k + 1, hk => by
    have a := ms_line h (k := k) (by omega)
    have b := ms_lf_b h k (by omega)
    rw [ms_lf]
    split <;> omega
theorem ms_szw {S : Nat → Int} (h : ms_ok S) : ms_sz (ms_le S) (ms_wt S) (S 60).toNat := by
  have l := ms_lines h
  have a := ms_lf_b h (S 60).toNat (by omega)
  have o := h.2.2.1
  refine ⟨⟨by omega, a.1, ?_⟩, fun k hk => ms_wt_b h (by omega)⟩
  have := a.2
  unfold ms_le
  omega
def rf_f (M N : sd_M) : Prop := ∀ a, a ≠ 342 → a ≠ 343 → a ≠ 344 → N a = M a
theorem rf_f_rf {M : sd_M} : rf_f M M := fun _ _ _ _ => rfl
theorem rf_f_tr {M N K : sd_M} (h : rf_f M N) (g : rf_f N K) : rf_f M K := fun a x y z => (g a x y z).trans (h a x y z)
theorem rf_f_3 {M N : sd_M} (h : rf_f3 M N) : rf_f M N := fun a _ y _ => h a y
theorem rf_f_41 {M N : sd_M} (h : rf_f M N) : N 341 = M 341 := h 341 (by omega) (by omega) (by omega)
theorem rf_signs_12 {M0 : sd_M} (h : ms_ok (M0 341)) (kk : Int → Int → sd_M → Option (Int × sd_M)) : ∀ (m k fu : Nat) (M : sd_M), (k : Int) + m = M0 341 60 → m < fu → rf_f M0 M → (∀ j, j < k → M 342 j = ms_wt (M0 341) j ∧ M 344 j = ms_s0 (M0 341) j) → ∃ N, rf_f M0 N ∧ (∀ j : Nat, (j : Int) < M0 341 60 → N 342 j = ms_wt (M0 341) j ∧ N 344 j = ms_s0 (M0 341) j) ∧ f_X10_signs_12 kk fu (ms_lf (M0 341) k) (ms_sum (ms_wt (M0 341)) k) (k : Int) M = kk (ms_le (M0 341)) (ms_al (M0 341)) N := by
  have l := ms_lines h
  have o := h.2.2.1
  intro m
  induction m with
  | zero =>
    intro k fu M hk hf hM hP
    obtain ⟨fu, rfl⟩ : ∃ g, fu = g + 1 := ⟨fu - 1, by omega⟩
    refine ⟨M, hM, fun j hj => hP j (by omega), ?_⟩
    rw [f_X10_signs_12, rf_f_41 hM, if_pos (by omega)]
    unfold ms_le ms_al
    rw [show (M0 341 60).toNat = k by omega]
  | succ m ih =>
    intro k fu M hk hf hM hP
    obtain ⟨fu, rfl⟩ : ∃ g, fu = g + 1 := ⟨fu - 1, by omega⟩
    have e : M 341 = M0 341 := rf_f_41 hM
    have a := ms_line h (k := k) (by omega)
    have b := ms_lf_b h k (by omega)
    have c := ms_sum_b (w := ms_wt (M0 341)) (a := 0) (b := 999) k (fun j hj => ms_wt_b h (by omega))
    have d := ms_wt_b h (k := k) (by omega)
    have go : ∃ N, rf_f M0 N ∧ (∀ j : Nat, (j : Int) < M0 341 60 → N 342 j = ms_wt (M0 341) j ∧ N 344 j = ms_s0 (M0 341) j) ∧ f_X10_signs_12 kk fu (ms_lf (M0 341) k - ms_s0 (M0 341) k) (ms_sum (ms_wt (M0 341)) k + ms_wt (M0 341) k) ((k : Int) + 1) (sd_s (sd_s M 344 k (ms_s0 (M0 341) k)) 342 k (ms_wt (M0 341) k)) = kk (ms_le (M0 341)) (ms_al (M0 341)) N := by
      refine ih (k + 1) fu _ (by omega) (by omega) (fun x h1 h2 h3 => by rw [sd_s_a h1, sd_s_a h3, hM x h1 h2 h3]) (fun j hj => ?_)
      by_cases ej : j = k
      · subst ej
        constructor
        · rw [sd_s_at]
        · rw [sd_s_a (by omega), sd_s_at]
      · rw [sd_s_j ej, sd_s_a (a := 344) (b := 342) (by omega), sd_s_a (a := 342) (b := 344) (by omega), sd_s_j ej]
        exact hP j (by omega)
    obtain ⟨N, n1, n2, n3⟩ := go
    refine ⟨N, n1, n2, ?_⟩
    rw [← n3, f_X10_signs_12, e]
    by_cases is : M0 341 (13 + (M0 341 (89 + k)).toNat) = 1 ∧ M0 341 (62 + (M0 341 (89 + k)).toNat) ≤ ms_lf (M0 341) k
    · have s0 : ms_s0 (M0 341) k = M0 341 (62 + (M0 341 (89 + k)).toNat) := if_pos is
      have w0 : ms_wt (M0 341) k = 0 := if_pos is
      rw [s0, w0]
      simp (disch := omega) only [if_neg, if_pos, sd_wid, sd_tn89, sd_tn62, sd_tn13, Int.toNat_natCast, f_X10_signs_67, f_X10_signs_93, f_X10_signs_118, sd_s_at, sd_s_a, e]
    · have s0 : ms_s0 (M0 341) k = 0 := if_neg is
      have w0 : ms_wt (M0 341) k = M0 341 (62 + (M0 341 (89 + k)).toNat) := if_neg is
      rw [s0, w0]
      rw [w0] at d
      by_cases i1 : M0 341 (13 + (M0 341 (89 + k)).toNat) = 1
      · have i2 : ms_lf (M0 341) k < M0 341 (62 + (M0 341 (89 + k)).toNat) := by omega
        simp (disch := omega) only [if_neg, if_pos, sd_wid, sd_tn89, sd_tn62, sd_tn13, Int.toNat_natCast, f_X10_signs_66, f_X10_signs_67, f_X10_signs_93, f_X10_signs_118, sd_s_at, sd_s_a, e]
      · simp (disch := omega) only [if_neg, if_pos, sd_wid, sd_tn89, sd_tn62, sd_tn13, Int.toNat_natCast, f_X10_signs_66, f_X10_signs_67, f_X10_signs_93, f_X10_signs_118, sd_s_at, sd_s_a, e]
