/-! parting something by weights -/
def ms_sum (w : Nat → Int) : Nat → Int
  | 0 => 0
  | n + 1 => ms_sum w n + w n
def ms_rk (r : Nat → Int) (k : Nat) : Nat → Int
  | 0 => 0
  | o + 1 => ms_rk r k o + if r k < r o ∨ (r o = r k ∧ o < k) then 1 else 0
def ms_fl (much : Int) (w : Nat → Int) (n : Nat) (k : Nat) : Int := much * w k / ms_sum w n
def ms_rm (much : Int) (w : Nat → Int) (n : Nat) (k : Nat) : Int := much * w k % ms_sum w n
def ms_rs (much : Int) (w : Nat → Int) (n : Nat) : Int := much - ms_sum (ms_fl much w n) n
def ms_pt (much : Int) (w : Nat → Int) (n : Nat) (k : Nat) : Int := if ms_sum w n = 0 then 0 else ms_fl much w n k + if ms_rk (ms_rm much w n) k n < ms_rs much w n then 1 else 0
theorem ms_sum_c {v w : Nat → Int} : ∀ n, (∀ k, k < n → v k = w k) → ms_sum v n = ms_sum w n
  | 0, _ => rfl
  | n + 1, h => by rw [ms_sum, ms_sum, ms_sum_c n (fun k hk => h k (by omega)), h n (by omega)]
theorem ms_sum_b {w : Nat → Int} {a b : Int} : ∀ n : Nat, (∀ k, k < n → a ≤ w k ∧ w k ≤ b) → a * n ≤ ms_sum w n ∧ ms_sum w n ≤ b * n
  | 0, _ => by simp [ms_sum]
  | n + 1, h => by
    have i := ms_sum_b n (fun k hk => h k (by omega))
    have j := h n (by omega)
    unfold ms_sum
    push_cast
    rw [Int.mul_add, Int.mul_add]
    omega
theorem ms_sum_mono {w : Nat → Int} {n : Nat} (h : ∀ k, k < n → 0 ≤ w k) : ∀ k, k ≤ n → ms_sum w k ≤ ms_sum w n := by
  induction n with
  | zero => intro k hk; rw [show k = 0 by omega]; exact Int.le_refl _
  | succ n ih =>
    intro k hk
    have a := h n (by omega)
    by_cases e : k = n + 1
    · subst e; exact Int.le_refl _
    · have := ih (fun k hk => h k (by omega)) k (by omega)
      rw [show ms_sum w (n + 1) = ms_sum w n + w n from rfl]
      omega
theorem ms_rk_b {r : Nat → Int} {k : Nat} : ∀ n : Nat, 0 ≤ ms_rk r k n ∧ ms_rk r k n ≤ n
  | 0 => by simp [ms_rk]
  | n + 1 => by
    have := ms_rk_b (r := r) (k := k) n
    unfold ms_rk
    push_cast
    split <;> omega
/-- the sizes in which no product overflows -/
def ms_sz (much : Int) (w : Nat → Int) (n : Nat) : Prop := (n ≤ 9 ∧ 0 ≤ much ∧ much ≤ 9999) ∧ ∀ k, k < n → 0 ≤ w k ∧ w k ≤ 999
theorem ms_sz_s {much : Int} {w : Nat → Int} {n : Nat} (h : ms_sz much w n) : 0 ≤ ms_sum w n ∧ ms_sum w n ≤ 8991 := by
  have := ms_sum_b n h.2
  have h1 := h.1
  omega
theorem ms_sz_k {much : Int} {w : Nat → Int} {n k : Nat} (h : ms_sz much w n) (hk : k < n) : 0 ≤ much * w k ∧ much * w k ≤ 9989001 := by
  obtain ⟨⟨h1, h2, h3⟩, h4⟩ := h
  have a := h4 k hk
  constructor
  · exact Int.mul_nonneg h2 a.1
  · have : much * w k ≤ 9999 * 999 := Int.mul_le_mul h3 a.2 a.1 (by omega)
    omega
theorem ms_sz_f {much : Int} {w : Nat → Int} {n k : Nat} (h : ms_sz much w n) (hs : 0 < ms_sum w n) (hk : k < n) : (0 ≤ ms_fl much w n k ∧ ms_fl much w n k ≤ much) ∧ (0 ≤ ms_rm much w n k ∧ ms_rm much w n k < ms_sum w n) ∧ ms_sum w n * ms_fl much w n k + ms_rm much w n k = much * w k := by
  have a := ms_sz_k h hk
  unfold ms_fl ms_rm
  refine ⟨⟨Int.ediv_nonneg a.1 (by omega), ?_⟩, ⟨Int.emod_nonneg _ (by omega), Int.emod_lt_of_pos _ hs⟩, Int.mul_ediv_add_emod ..⟩
  obtain ⟨⟨h1, h2, h3⟩, h4⟩ := h
  have b : w k ≤ ms_sum w n := by
    have c := ms_sum_mono (w := w) (n := n) (fun k hk => (h4 k hk).1) (k + 1) hk
    have d := ms_sum_mono (w := w) (n := k) (fun j hj => (h4 j (by omega)).1) 0 (by omega)
    rw [show ms_sum w (k + 1) = ms_sum w k + w k from rfl] at c
    rw [show ms_sum w 0 = 0 from rfl] at d
    omega
  have : much * w k ≤ much * ms_sum w n := Int.mul_le_mul_of_nonneg_left b h2
  exact Int.ediv_le_of_le_mul hs this
/-- what is left over is less than how many there are -/
theorem ms_rs_b {much : Int} {w : Nat → Int} {n : Nat} (h : ms_sz much w n) (hs : 0 < ms_sum w n) : ∀ k : Nat, k ≤ n → 0 ≤ ms_sum (ms_fl much w n) k ∧ ms_sum w n * ms_sum (ms_fl much w n) k ≤ much * ms_sum w k
  | 0, _ => by simp [ms_sum]
  | k + 1, hk => by
    have i := ms_rs_b h hs k (by omega)
    have f := ms_sz_f h hs (k := k) (by omega)
    rw [show ms_sum (ms_fl much w n) (k + 1) = ms_sum (ms_fl much w n) k + ms_fl much w n k from rfl, show ms_sum w (k + 1) = ms_sum w k + w k from rfl, Int.mul_add, Int.mul_add]
    omega
theorem ms_rs_0 {much : Int} {w : Nat → Int} {n : Nat} (h : ms_sz much w n) (hs : 0 < ms_sum w n) : 0 ≤ ms_rs much w n ∧ ms_rs much w n ≤ much := by
  have a := ms_rs_b h hs n (Nat.le_refl _)
  unfold ms_rs
  rw [Int.mul_comm much] at a
  have := Int.le_of_mul_le_mul_left a.2 hs
  omega
