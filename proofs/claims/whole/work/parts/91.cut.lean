/-! tokens: where they begin, what they are -/
def tx_d (B : Nat → Int) (n p : Nat) : Nat := tx_run 48 57 B (n - p) p
def tx_l (B : Nat → Int) (n p : Nat) : Nat := tx_run 97 122 B (n - p) p
/-- a sign with = behind it -/
def tx_oq (B : Nat → Int) (n p : Nat) : Bool := (decide (B p = 60) || decide (B p = 62)) && decide (p + 1 < n) && decide (B (p + 1) = 61)
def tx_len (B : Nat → Int) (n p : Nat) : Nat := if 0 < tx_d B n p then tx_d B n p else if 0 < tx_l B n p then tx_l B n p else if tx_oq B n p = true then 2 else 1
def tx_kd (B : Nat → Int) (n p : Nat) : Int := if n ≤ p then 512 else if 0 < tx_d B n p then 513 else if 0 < tx_l B n p then ((600 + tx_wn B p (tx_l B n p) tx_ws 0 : Nat) : Int) else if tx_oq B n p = true then tx_ub (B p) + 256 else tx_ub (B p)
def tx_vl (B : Nat → Int) (n p : Nat) : Int := if n ≤ p then 0 else if 0 < tx_d B n p then (if tx_d B n p ≤ 5 then tx_nm B p (tx_d B n p) else -1) else 0
def tx_sk (B : Nat → Int) : Nat → Nat → Nat
  | 0, p => p
  | m + 1, p => if B p = 32 then tx_sk B m (p + 1) else p
def tx_s (B : Nat → Int) (n p : Nat) : Nat := tx_sk B (n - p) p
/-- the next token's place behind one -/
def tx_nx (B : Nat → Int) (n p : Nat) : Nat := if n ≤ p then p else tx_s B n (p + tx_len B n p)
def tx_pl (B : Nat → Int) (n : Nat) : Nat → Nat
  | 0 => tx_s B n 0
  | i + 1 => tx_nx B n (tx_pl B n i)
theorem tx_sk_b {B : Nat → Int} : ∀ m p, p ≤ tx_sk B m p ∧ tx_sk B m p ≤ p + m
  | 0, p => ⟨Nat.le_refl _, Nat.le_refl _⟩
  | m + 1, p => by
    have := tx_sk_b (B := B) m (p + 1)
    rw [tx_sk]
    split <;> omega
theorem tx_sk_n {B : Nat → Int} : ∀ m p, tx_sk B m p < p + m → B (tx_sk B m p) ≠ 32
  | 0, p, h => absurd h (by rw [tx_sk]; omega)
  | m + 1, p, h => by
    rw [tx_sk] at h ⊢
    by_cases c : B p = 32
    · rw [if_pos c] at h ⊢
      exact tx_sk_n m (p + 1) (by omega)
    · rw [if_neg c]
      exact c
theorem tx_s_b {B : Nat → Int} {n p : Nat} (h : p ≤ n) : p ≤ tx_s B n p ∧ tx_s B n p ≤ n := by
  have := tx_sk_b (B := B) (n - p) p
  unfold tx_s
  omega
theorem tx_s_n {B : Nat → Int} {n p : Nat} (h : p ≤ n) (c : tx_s B n p < n) : B (tx_s B n p) ≠ 32 := tx_sk_n (n - p) p (by unfold tx_s at c; omega)
theorem tx_s_sp {B : Nat → Int} {n p : Nat} (h : p < n) (c : B p = 32) : tx_s B n p = tx_s B n (p + 1) := by
  unfold tx_s
  rw [show n - p = (n - (p + 1)) + 1 by omega, tx_sk, if_pos c]
theorem tx_s_ns {B : Nat → Int} {n p : Nat} (c : B p ≠ 32) : tx_s B n p = p := by
  unfold tx_s
  cases n - p with
  | zero => rfl
  | succ m => rw [tx_sk, if_neg c]
theorem tx_s_e {B : Nat → Int} {n p : Nat} (c : n ≤ p) : tx_s B n p = p := by
  unfold tx_s
  rw [show n - p = 0 by omega, tx_sk]
theorem tx_s_s {B : Nat → Int} {n p : Nat} (h : p ≤ n) : tx_s B n (tx_s B n p) = tx_s B n p := by
  by_cases c : tx_s B n p < n
  · exact tx_s_ns (tx_s_n h c)
  · exact tx_s_e (by omega)
theorem tx_d_b {B : Nat → Int} {n p : Nat} : tx_d B n p ≤ n - p := tx_run_le _ _
theorem tx_l_b {B : Nat → Int} {n p : Nat} : tx_l B n p ≤ n - p := tx_run_le _ _
theorem tx_len_b {B : Nat → Int} {n p : Nat} (h : p < n) : 1 ≤ tx_len B n p ∧ p + tx_len B n p ≤ n := by
  have a := tx_d_b (B := B) (n := n) (p := p)
  have b := tx_l_b (B := B) (n := n) (p := p)
  unfold tx_len
  split
  · omega
  · split
    · omega
    · split
      · rename_i c
        unfold tx_oq at c
        rw [Bool.and_eq_true, Bool.and_eq_true] at c
        have := of_decide_eq_true c.1.2
        omega
      · omega
theorem tx_by_c {M N : sd_M} {B : Nat → Int} {n : Nat} (h : tx_by M B n) (e1 : N 1 1 = M 1 1) (e2 : N 2 = M 2) : tx_by N B n := ⟨e1.trans h.1, h.2.1, fun j hj => by rw [e2]; exact h.2.2 j hj⟩
/-- t tokens are cut -/
def tx_ct (M : sd_M) (B : Nat → Int) (n t : Nat) : Prop := M 1 3 = t ∧ ∀ i, i < t → M 3 i = tx_kd B n (tx_pl B n i) ∧ M 4 i = (tx_pl B n i : Int) ∧ M 5 i = tx_vl B n (tx_pl B n i)
/-- what cutting leaves alone -/
def tx_fr (M N : sd_M) : Prop := (∀ a, a ≠ 1 → a ≠ 3 → a ≠ 4 → a ≠ 5 → N a = M a) ∧ ∀ j, j ≠ 3 → N 1 j = M 1 j
theorem tx_fr_rf {M : sd_M} : tx_fr M M := ⟨fun _ _ _ _ _ => rfl, fun _ _ => rfl⟩
theorem tx_fr_tr {M N K : sd_M} (h : tx_fr M N) (g : tx_fr N K) : tx_fr M K := ⟨fun a x y z w => (g.1 a x y z w).trans (h.1 a x y z w), fun j x => (g.2 j x).trans (h.2 j x)⟩
theorem tx_fr_by {M N : sd_M} {B : Nat → Int} {n : Nat} (h : tx_by M B n) (g : tx_fr M N) : tx_by N B n := tx_by_c h (g.2 1 (by omega)) (g.1 2 (by omega) (by omega) (by omega) (by omega))
theorem tx_add {M : sd_M} {B : Nat → Int} {n t p : Nat} (ht : t < 401) (h : tx_ct M B n t) (hp : tx_pl B n t = p) : ∃ N, f_X7_addToken (tx_kd B n p) (p : Int) (tx_vl B n p) M = some (0, N) ∧ tx_ct N B n (t + 1) ∧ tx_fr M N := by
  obtain ⟨h1, h2⟩ := h
  unfold f_X7_addToken
  simp (disch := omega) only [sd_s_a, h1, Int.toNat_natCast]
  rw [if_neg (by omega), if_pos (by omega), if_pos (by omega), if_pos (by omega), sd_wid (by omega) (by omega)]
  refine ⟨_, rfl, ⟨sd_s_at, fun i hi => ?_⟩, fun a x y z w => ?_, fun j hj => ?_⟩
  · rw [sd_s_a (show (3 : Nat) ≠ 1 by omega), sd_s_a (show (4 : Nat) ≠ 1 by omega), sd_s_a (show (5 : Nat) ≠ 1 by omega), sd_s_a (show (3 : Nat) ≠ 5 by omega), sd_s_a (show (3 : Nat) ≠ 4 by omega), sd_s_a (show (4 : Nat) ≠ 5 by omega)]
    by_cases c : i = t
    · rw [c, sd_s_at, sd_s_at, sd_s_at, hp]
      exact ⟨rfl, rfl, rfl⟩
    · rw [sd_s_j c, sd_s_j c, sd_s_j c, sd_s_a (show (4 : Nat) ≠ 3 by omega), sd_s_a (show (5 : Nat) ≠ 4 by omega), sd_s_a (show (5 : Nat) ≠ 3 by omega)]
      exact h2 i (by omega)
  · rw [sd_s_a x, sd_s_a w, sd_s_a z, sd_s_a y]
  · rw [sd_s_j hj, sd_s_a (by omega), sd_s_a (by omega), sd_s_a (by omega)]
