/-! the reference reckons -/
theorem ms_and15 {s n : Int} (hs : 0 ≤ s ∧ s < 16) (hn : 0 ≤ n ∧ n ≤ 99999) : sd_and (s + 16 * n) 15 = s := by
  obtain ⟨x, hx⟩ : ∃ x : Nat, s + 16 * n = x := ⟨(s + 16 * n).toNat, by omega⟩
  rw [hx]
  unfold sd_and
  have e : (Int32.ofInt (x : Int) &&& Int32.ofInt 15).toBitVec.toNat = x % 16 := by
    rw [Int32.toBitVec_and, BitVec.toNat_and, Int32.toBitVec_ofInt, Int32.toBitVec_ofInt, BitVec.toNat_ofInt, BitVec.toNat_ofInt]
    rw [show ((x : Int) % ((2 ^ 32 : Nat) : Int)).toNat = x by omega]
    exact Nat.and_two_pow_sub_one_eq_mod x 4
  rw [← Int32.toInt_toBitVec, BitVec.toInt_eq_toNat_of_lt (by rw [e]; omega), e]
  omega
theorem ms_shr4 {s n : Int} (hs : 0 ≤ s ∧ s < 16) (hn : 0 ≤ n ∧ n ≤ 99999) : sd_shr (s + 16 * n) 4 = n := by
  obtain ⟨x, hx⟩ : ∃ x : Nat, s + 16 * n = x := ⟨(s + 16 * n).toNat, by omega⟩
  rw [hx]
  unfold sd_shr
  have e1 : (Int32.ofInt (x : Int)).toBitVec.toInt = x := by
    rw [Int32.toBitVec_ofInt, BitVec.toInt_ofInt]
    exact Int.bmod_eq_of_le (by omega) (by omega)
  have e : (Int32.ofInt (x : Int) >>> (Int32.ofInt 4 &&& 31)).toBitVec = (Int32.ofInt (x : Int)).toBitVec.sshiftRight 4 := rfl
  rw [← Int32.toInt_toBitVec, e, BitVec.toInt_sshiftRight, e1, Int.shiftRight_eq_div_pow]
  omega
theorem rf_push {M : sd_M} {top : Nat} (v : Int) (h : M 331 18 = top) (ht : top < 64) : f_X10_push v M = some (0, sd_s (sd_s M 339 top v) 331 18 ((top : Int) + 1)) := by
  unfold f_X10_push
  rw [h, if_pos (by omega), sd_s_a (by omega), h, sd_wid (by omega) (by omega), Int.toNat_natCast]
theorem rf_pop {M : sd_M} {top : Nat} (h : M 331 18 = (top : Int) + 1) (ht : top < 64) : f_X10_pop M = some (M 339 top, sd_s M 331 18 (top : Int)) := by
  unfold f_X10_pop
  rw [h, sd_wid (by omega) (by omega), sd_s_at, if_pos (by omega), sd_s_a (by omega), show (top : Int) + 1 - 1 = top by omega, Int.toNat_natCast]
theorem ms_landl {x y : Int} (hx : x = 0 ∨ x = 1) (hy : y = 0 ∨ y = 1) : sd_landl x y = (if x ≠ 0 ∧ y ≠ 0 then 1 else 0) ∧ sd_lorl x y = if x ≠ 0 ∨ y ≠ 0 then 1 else 0 := by
  rcases hx with rfl | rfl <;> rcases hy with rfl | rfl <;> decide
theorem ms_cmp {x y : Int} : (sd_cmpl x y < 0 ↔ x < y) ∧ (0 < sd_cmpl x y ↔ y < x) ∧ (sd_cmpl x y = 0 ↔ x = y) := by
  unfold sd_cmpl
  split
  · omega
  · split <;> omega
theorem rf_one {M : sd_M} {c x y : Int} (hc : 2 ≤ c ∧ c ≤ 13) (h : 12 ≤ c → (x = 0 ∨ x = 1) ∧ (y = 0 ∨ y = 1)) : f_X10_one (ms_gi c) x y M = some (ms_e2 c x y, M) := by
  have a := ms_cmp (x := x) (y := y)
  have b := ms_cmp (x := y) (y := 0)
  have d : c = 2 ∨ c = 3 ∨ c = 4 ∨ c = 5 ∨ c = 6 ∨ c = 7 ∨ c = 8 ∨ c = 9 ∨ c = 10 ∨ c = 11 ∨ c = 12 ∨ c = 13 := by omega
  rcases d with rfl | rfl | rfl | rfl | rfl | rfl | rfl | rfl | rfl | rfl | rfl | rfl
  · rfl
  · rfl
  · rfl
  · by_cases e : y = 0
    · rw [show ms_e2 5 x y = 0 by simp [ms_e2, e]]
      simp [f_X10_one, ms_gi, e, sd_cmpl]
    · rw [show ms_e2 5 x y = sd_wl (Int.tdiv x y) by simp [ms_e2, e]]
      simp [f_X10_one, ms_gi, e, b.2.2]
  · by_cases e : y = 0
    · rw [show ms_e2 6 x y = 0 by simp [ms_e2, e]]
      simp [f_X10_one, ms_gi, e, sd_cmpl]
    · rw [show ms_e2 6 x y = Int.tmod x y by simp [ms_e2, e]]
      simp [f_X10_one, ms_gi, e, b.2.2]
  · by_cases e : x < y
    · rw [show ms_e2 7 x y = 1 by simp [ms_e2, e]]
      have : ¬ (0 ≤ sd_cmpl x y) := by omega
      simp [f_X10_one, ms_gi, this]
    · rw [show ms_e2 7 x y = 0 by simp [ms_e2, e]]
      have : 0 ≤ sd_cmpl x y := by omega
      simp [f_X10_one, ms_gi, this]
  · by_cases e : x ≤ y
    · rw [show ms_e2 8 x y = 1 by simp [ms_e2, e]]
      have : ¬ (0 < sd_cmpl x y) := by omega
      simp [f_X10_one, ms_gi, this]
    · rw [show ms_e2 8 x y = 0 by simp [ms_e2, e]]
      have : 0 < sd_cmpl x y := by omega
      simp [f_X10_one, ms_gi, this]
  · by_cases e : x = y
    · rw [show ms_e2 9 x y = 1 by simp [ms_e2, e]]
      simp [f_X10_one, ms_gi, a.2.2.mpr e]
    · rw [show ms_e2 9 x y = 0 by simp [ms_e2, e]]
      have : ¬ (sd_cmpl x y = 0) := fun h => e (a.2.2.mp h)
      simp [f_X10_one, ms_gi, this]
  · by_cases e : y ≤ x
    · rw [show ms_e2 10 x y = 1 by simp [ms_e2, e]]
      have : ¬ (sd_cmpl x y < 0) := by omega
      simp [f_X10_one, ms_gi, this]
    · rw [show ms_e2 10 x y = 0 by simp [ms_e2, e]]
      have : sd_cmpl x y < 0 := by omega
      simp [f_X10_one, ms_gi, this]
  · by_cases e : y < x
    · rw [show ms_e2 11 x y = 1 by simp [ms_e2, e]]
      have : ¬ (sd_cmpl x y ≤ 0) := by omega
      simp [f_X10_one, ms_gi, this]
    · rw [show ms_e2 11 x y = 0 by simp [ms_e2, e]]
      have : sd_cmpl x y ≤ 0 := by omega
      simp [f_X10_one, ms_gi, this]
  · have g := h (by omega)
    have k := (ms_landl g.1 g.2).1
    show some (sd_landl x y, M) = some (ms_e2 12 x y, M)
    rw [k]
    rfl
  · have g := h (by omega)
    have k := (ms_landl g.1 g.2).2
    show some (sd_lorl x y, M) = some (ms_e2 13 x y, M)
    rw [k]
    rfl
/-- what reckoning may change -/
def rf_k (M N : sd_M) : Prop := (∀ a, a ≠ 331 → a ≠ 339 → N a = M a) ∧ ∀ j, j ≠ 18 → N 331 j = M 331 j
theorem rf_k_rf {M : sd_M} : rf_k M M := ⟨fun _ _ _ => rfl, fun _ _ => rfl⟩
theorem rf_k_tr {M N K : sd_M} (h : rf_k M N) (g : rf_k N K) : rf_k M K := ⟨fun a x y => (g.1 a x y).trans (h.1 a x y), fun j x => (g.2 j x).trans (h.2 j x)⟩
theorem rf_k_t {M : sd_M} {v : Int} : rf_k M (sd_s M 331 18 v) := ⟨fun a x _ => sd_s_a x, fun j x => sd_s_j x⟩
theorem rf_k_s {M : sd_M} {i : Nat} {v : Int} : rf_k M (sd_s M 339 i v) := ⟨fun a _ y => sd_s_a y, fun j _ => by rw [sd_s_a (by omega)]⟩
/-- the stack of the reference -/
def rf_st (M : sd_M) (s : List Int) : Prop := M 331 18 = s.length ∧ ms_sr (M 339) s
theorem rf_st_p {M : sd_M} {s : List Int} (h : rf_st M s) (hl : s.length < 64) (v : Int) : ∃ N, f_X10_push v M = some (0, N) ∧ rf_k M N ∧ rf_st N (v :: s) := by
  refine ⟨_, rf_push v h.1 hl, rf_k_tr rf_k_s rf_k_t, ?_, ?_⟩
  · rw [sd_s_at]
    simp
  · rw [sd_s_a (by omega), sd_s_row]
    exact ms_sr_p h.2
theorem rf_st_o {M : sd_M} {x : Int} {s : List Int} (h : rf_st M (x :: s)) (hl : s.length < 64) : ∃ N, f_X10_pop M = some (x, N) ∧ rf_k M N ∧ rf_st N s := by
  have e : M 331 18 = (s.length : Int) + 1 := by
    have := h.1
    simp only [List.length_cons] at this
    rw [this]
    push_cast
    rfl
  refine ⟨_, (rf_pop e hl).trans (by rw [h.2.1]), rf_k_t, ?_, ?_⟩
  · rw [sd_s_at]
  · rw [sd_s_a (by omega)]
    exact h.2.2
