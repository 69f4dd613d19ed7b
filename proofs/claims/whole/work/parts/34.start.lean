/-! the cells at the begin -/
def sd_M0 : sd_M := fun a k => if a = 58 ∨ a = 78 ∨ a = 97 ∨ a = 116 ∨ a = 135 then (if k = 3 then -1 else 0) else if a = 331 then (if k = 21 then -1 else 0) else 0
theorem sd_rf_mk (b st n ci : Nat) (m : Nat → Int) : sd_rf b st n = sd_mka (4 + ci) ((List.range n).map (fun i => b + st * i)) m := by
  funext j
  have h1 : ¬ 4 + ci = 1 := by omega
  unfold sd_rf sd_mka
  rw [if_neg h1, if_pos (Nat.le_add_right 4 ci)]
  by_cases h : j < n
  · simp [h]
  · simp [h]
set_option maxRecDepth 100000 in
set_option maxHeartbeats 4000000 in
theorem sd_start : sd_k9 0 ++ sd_k10 331 = sd_rp sd_M0 := by
  unfold sd_k9 sd_t9
  rw [sd_rf_mk (0 + 16) 7 6 4 (sd_M0 15), sd_rf_mk (0 + 78) 19 4 2 (sd_M0 77), sd_rf_mk (0 + 156) 8 20 0 (sd_M0 155)]
  rfl
