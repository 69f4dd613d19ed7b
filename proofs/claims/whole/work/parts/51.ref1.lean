/-! the reference: what only reads -/
theorem rf_placed_l {M : sd_M} (h : ms_ok (M 341)) : ∀ (m k fu : Nat), (k : Int) + m = M 341 60 → m < fu → f_X10_placed_4 fu (ms_plk (M 341) k) (k : Int) M = some (ms_pl (M 341), M) := by
  have l := ms_lines h
  intro m
  induction m with
  | zero =>
    intro k fu hk hf
    obtain ⟨fu, rfl⟩ : ∃ g, fu = g + 1 := ⟨fu - 1, by omega⟩
    rw [f_X10_placed_4, if_pos (by omega)]
    unfold ms_pl
    rw [show (M 341 60).toNat = k by omega]
  | succ m ih =>
    intro k fu hk hf
    obtain ⟨fu, rfl⟩ : ∃ g, fu = g + 1 := ⟨fu - 1, by omega⟩
    have a := ms_line h (k := k) (by omega)
    have p := ms_plk_le h k (by omega)
    have e := ih (k + 1) fu (by omega) (by omega)
    rw [f_X10_placed_4]
    simp (disch := omega) only [if_neg, if_pos, sd_wid, sd_tn89, sd_tn62, Int.toNat_natCast]
    rw [ms_plk] at e
    push_cast at e
    exact e
theorem rf_placed {M : sd_M} (h : ms_ok (M 341)) : f_X10_placed M = some (ms_pl (M 341), M) := by
  have l := ms_lines h
  exact rf_placed_l h (M 341 60).toNat 0 4000 (by omega) (by omega)
theorem rf_shortNow {M : sd_M} (h : ms_ok (M 341)) : f_X10_shortNow M = some (ms_sh (M 341), M) := by
  have l := ms_pl_le h
  have o := h.2.2.1
  unfold f_X10_shortNow ms_sh
  rw [rf_placed h]
  simp only [Option.bind_some]
  split
  · rfl
  · simp only [rf_placed h, Option.bind_some]
    rw [sd_wid (by omega) (by omega)]
theorem rf_needsOf_l {M : sd_M} (h : ms_ok (M 341)) (f : Int) : ∀ (m k fu : Nat), (k : Int) + m = M 341 3 → m < fu → (0 ≤ ms_nf (M 341) f k ∧ ms_nf (M 341) f k ≤ k) → f_X10_needsOf_4 fu f (ms_nf (M 341) f k) (k : Int) M = some (ms_nf (M 341) f (M 341 3).toNat, M) := by
  obtain ⟨⟨t0, t2, t3, t4⟩, h1⟩ := h
  intro m
  induction m with
  | zero =>
    intro k fu hk hf hb
    obtain ⟨fu, rfl⟩ : ∃ g, fu = g + 1 := ⟨fu - 1, by omega⟩
    rw [f_X10_needsOf_4, if_pos (by omega)]
    rw [show (M 341 3).toNat = k by omega]
  | succ m ih =>
    intro k fu hk hf hb
    obtain ⟨fu, rfl⟩ : ∃ g, fu = g + 1 := ⟨fu - 1, by omega⟩
    have e := ih (k + 1) fu (by omega) (by omega)
    rw [ms_nf] at e
    push_cast at e
    rw [f_X10_needsOf_4]
    simp (disch := omega) only [if_neg, if_pos, sd_wid, sd_tn22, sd_t3, Int.toNat_natCast, f_X10_needsOf_35]
    split
    · rename_i hc
      rw [if_pos hc] at e
      exact e (by omega)
    · rename_i hc
      rw [if_neg hc] at e
      exact e (by omega)
theorem rf_needsOf {M : sd_M} (h : ms_ok (M 341)) (f : Int) : f_X10_needsOf f M = some (ms_nf (M 341) f (M 341 3).toNat, M) := by
  have l := h.1.2.2.1
  exact rf_needsOf_l h f (M 341 3).toNat 0 4000 (by omega) (by omega) ⟨Int.le_refl _, Int.le_refl _⟩
theorem rf_isOffer {M : sd_M} (f : Int) : f_X10_isOffer f M = some (if 0 ≤ f ∧ f < M 341 2 then 1 else 0, M) := by
  unfold f_X10_isOffer
  by_cases a : f < 0
  · rw [if_pos a, if_neg (by omega)]
  · rw [if_neg a]
    split
    · rw [if_neg (by omega)]
    · rw [if_pos (by omega)]
theorem rf_isLine {M : sd_M} (h : ms_ok (M 341)) (f : Int) : f_X10_isLine f M = some (if (0 ≤ f ∧ f < M 341 2) ∧ M 341 (71 + f.toNat) = 1 then 1 else 0, M) := by
  have l := ms_lines h
  unfold f_X10_isLine
  rw [rf_isOffer]
  simp only [Option.bind_some]
  by_cases a : 0 ≤ f ∧ f < M 341 2
  · rw [if_pos a]
    simp (disch := omega) only [if_neg (show ¬ ((1 : Int) = 0) by omega), if_pos (show 0 ≤ 71 + f ∧ 71 + f < 128 by omega), sd_wid, sd_tn71, a, and_self, true_and]
    split <;> rfl
  · simp only [a, if_false, false_and, if_true]
theorem rf_isWaiting {M : sd_M} (h : ms_ok (M 341)) (f : Int) : f_X10_isWaiting f M = some (if (0 ≤ f ∧ f < M 341 2) ∧ M 341 (71 + f.toNat) = 0 then 1 else 0, M) := by
  have l := ms_lines h
  unfold f_X10_isWaiting
  rw [rf_isOffer]
  simp only [Option.bind_some]
  by_cases a : 0 ≤ f ∧ f < M 341 2
  · rw [if_pos a]
    simp (disch := omega) only [if_neg (show ¬ ((1 : Int) = 0) by omega), if_pos (show 0 ≤ 71 + f ∧ 71 + f < 128 by omega), sd_wid, sd_tn71, a, and_self, true_and]
    split <;> rfl
  · simp only [a, if_false, false_and, if_true]
theorem rf_isSlip {M : sd_M} : f_X10_isSlip M = some (if M 341 0 = 1 then 1 else 0, M) := by
  unfold f_X10_isSlip
  split <;> rfl
theorem rf_isRule {M : sd_M} (f : Int) : f_X10_isRule f M = some (if 0 ≤ f ∧ f < M 331 2 then 1 else 0, M) := by
  unfold f_X10_isRule
  by_cases a : f < 0
  · rw [if_pos a, if_neg (by omega)]
  · rw [if_neg a]
    split
    · rw [if_neg (by omega)]
    · rw [if_pos (by omega)]
theorem rf_in {M : sd_M} (v a b : Int) : f_X10_in v a b M = some (if a ≤ v ∧ v ≤ b then 1 else 0, M) := by
  unfold f_X10_in sd_cmpl
  by_cases c : v < a
  · rw [if_pos c, if_pos (by omega), if_neg (by omega)]
  · rw [if_neg c]
    by_cases d : v ≤ b
    · rw [if_neg (by split <;> omega), if_neg (by split <;> (try split) <;> omega), if_pos (by omega)]
    · rw [if_neg (by split <;> omega), if_pos (by split <;> (try split) <;> omega), if_neg (by omega)]
/-! sets as numbers -/
def ms_bt (p : Nat → Bool) : Nat → Int
  | 0 => 0
  | n + 1 => ms_bt p n + if p n = true then 2 ^ n else 0
theorem ms_bor : ∀ n : Fin 9, ∀ v : Fin 512, v.val < 2 ^ n.val → sd_or (v.val : Int) (sd_shl 1 (n.val : Int)) = (v.val : Int) + 2 ^ n.val := by decide +kernel
theorem ms_bor0 : ∀ v : Fin 512, sd_or (v.val : Int) 0 = (v.val : Int) := by decide +kernel
theorem ms_bts : ∀ n : Fin 9, ∀ v : Fin 512, sd_and (sd_shr (v.val : Int) (n.val : Int)) 1 = ((v.val / 2 ^ n.val % 2 : Nat) : Int) := by decide +kernel
theorem ms_bt_lt {p : Nat → Bool} : ∀ n, 0 ≤ ms_bt p n ∧ ms_bt p n < 2 ^ n
  | 0 => by simp [ms_bt]
  | n + 1 => by
    have := ms_bt_lt (p := p) n
    have e : (2 : Int) ^ (n + 1) = 2 ^ n * 2 := Int.pow_succ ..
    unfold ms_bt
    split <;> omega
theorem ms_bt_or {p : Nat → Bool} {n : Nat} (hn : n < 9) (hp : p n = true) : sd_or (ms_bt p n) (sd_shl 1 (n : Int)) = ms_bt p (n + 1) := by
  have a := ms_bt_lt (p := p) n
  have b : (2 : Int) ^ n ≤ 256 := by
    have : ∀ n : Fin 9, (2 : Int) ^ n.val ≤ 256 := by decide
    exact this ⟨n, hn⟩
  obtain ⟨v, hv⟩ : ∃ v : Nat, ms_bt p n = v := ⟨(ms_bt p n).toNat, by omega⟩
  have c := ms_bor ⟨n, hn⟩ ⟨v, by omega⟩ (by
    have : ((v : Int)) < ((2 ^ n : Nat) : Int) := by push_cast; omega
    exact Int.ofNat_lt.mp this)
  rw [ms_bt, if_pos hp, hv]
  exact c
