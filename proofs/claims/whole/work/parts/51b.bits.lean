/-! sets as numbers, read -/
theorem ms_bt_x {p : Nat → Bool} {n : Nat} (h : ∀ i, n ≤ i → i < 9 → p i = false) : ∀ m, n + m ≤ 9 → ms_bt p (n + m) = ms_bt p n
  | 0, _ => rfl
  | m + 1, hm => by
    rw [← Nat.add_assoc, ms_bt, h (n + m) (by omega) (by omega), if_neg (by simp), ms_bt_x h m (by omega), Int.add_zero]
theorem ms_bt9 : ∀ b0 b1 b2 b3 b4 b5 b6 b7 b8 : Bool, ∀ i : Fin 9, sd_and (sd_shr (((((((((0 + (if b0 = true then 1 else 0)) + (if b1 = true then 2 else 0)) + (if b2 = true then 4 else 0)) + (if b3 = true then 8 else 0)) + (if b4 = true then 16 else 0)) + (if b5 = true then 32 else 0)) + (if b6 = true then 64 else 0)) + (if b7 = true then 128 else 0)) + (if b8 = true then 256 else 0)) (i.val : Int)) 1 = if ([b0, b1, b2, b3, b4, b5, b6, b7, b8][i.val]'i.isLt) = true then 1 else 0 := by decide +kernel
theorem ms_btt {p : Nat → Bool} {i : Nat} (hi : i < 9) : sd_and (sd_shr (ms_bt p 9) (i : Int)) 1 = if p i = true then 1 else 0 := by
  have e := ms_bt9 (p 0) (p 1) (p 2) (p 3) (p 4) (p 5) (p 6) (p 7) (p 8) ⟨i, hi⟩
  have e2 : [p 0, p 1, p 2, p 3, p 4, p 5, p 6, p 7, p 8][i]'hi = p i := by
    match i, hi with
    | 0, _ => rfl
    | 1, _ => rfl
    | 2, _ => rfl
    | 3, _ => rfl
    | 4, _ => rfl
    | 5, _ => rfl
    | 6, _ => rfl
    | 7, _ => rfl
    | 8, _ => rfl
  rw [← e2]
  exact e
theorem ms_bt_c {p q : Nat → Bool} : ∀ n, (∀ i, i < n → p i = q i) → ms_bt p n = ms_bt q n
  | 0, _ => rfl
  | n + 1, h => by rw [ms_bt, ms_bt, ms_bt_c n (fun i hi => h i (by omega)), h n (by omega)]
/-- the offers in a place -/
def ms_at (S : Nat → Int) (w : Int) (f : Nat) : Bool := decide ((f : Int) < S 2) && decide (S (71 + f) = w)
def ms_on (S : Nat → Int) (w : Int) : Int := ms_bt (ms_at S w) 9
theorem ms_bor00 {x : Int} (h : 0 ≤ x ∧ x < 512) : sd_or x 0 = x := by
  obtain ⟨v, rfl⟩ : ∃ v : Nat, x = v := ⟨x.toNat, by omega⟩
  exact ms_bor0 ⟨v, by omega⟩
theorem ms_p9 {n : Nat} (h : n ≤ 9) : (2 : Int) ^ n ≤ 512 := by
  have : ∀ n : Fin 10, (2 : Int) ^ n.val ≤ 512 := by decide
  exact this ⟨n, by omega⟩
theorem rf_onesAt_l {M : sd_M} (h : ms_ok (M 341)) (w : Int) : ∀ (m k fu : Nat), (k : Int) + m = M 341 2 → m < fu → f_X10_onesAt_4 fu w (ms_bt (ms_at (M 341) w) k) (k : Int) M = some (ms_on (M 341) w, M) := by
  have l := ms_lines h
  intro m
  induction m with
  | zero =>
    intro k fu hk hf
    obtain ⟨fu, rfl⟩ : ∃ g, fu = g + 1 := ⟨fu - 1, by omega⟩
    rw [f_X10_onesAt_4, if_pos (by omega)]
    have := ms_bt_x (p := ms_at (M 341) w) (n := k) (fun i hi _ => by
      have : ¬ ((i : Int) < M 341 2) := by omega
      simp [ms_at, this]) (9 - k) (by omega)
    rw [show k + (9 - k) = 9 by omega] at this
    rw [ms_on, this]
  | succ m ih =>
    intro k fu hk hf
    obtain ⟨fu, rfl⟩ : ∃ g, fu = g + 1 := ⟨fu - 1, by omega⟩
    have e := ih (k + 1) fu (by omega) (by omega)
    have b := ms_bt_lt (p := ms_at (M 341) w) k
    have b2 := ms_p9 (n := k) (by omega)
    have hl : (k : Int) < M 341 2 := by omega
    push_cast at e
    rw [f_X10_onesAt_4]
    simp (disch := omega) only [if_neg, if_pos, sd_wid, sd_tn71, Int.toNat_natCast, f_X10_onesAt_35]
    split
    · rename_i hc
      rw [ms_bt_or (by omega) (by simp [ms_at, hc, hl])]
      exact e
    · rename_i hc
      rw [ms_bt, if_neg (by simp [ms_at, hc]), Int.add_zero] at e
      rw [ms_bor00 (by omega)]
      exact e
theorem rf_onesAt {M : sd_M} (h : ms_ok (M 341)) (w : Int) : f_X10_onesAt w M = some (ms_on (M 341) w, M) := by
  have l := ms_lines h
  exact rf_onesAt_l h w (M 341 2).toNat 0 4000 (by omega) (by omega)
/-- how many -/
def ms_pp (x : Int) : Int := ((x.toNat % 2 + x.toNat / 2 % 2 + x.toNat / 4 % 2 + x.toNat / 8 % 2 + x.toNat / 16 % 2 + x.toNat / 32 % 2 + x.toNat / 64 % 2 + x.toNat / 128 % 2 + x.toNat / 256 % 2 : Nat) : Int)
def ms_pq : Nat → Int → Int → Option Int
  | 0, _, _ => none
  | n + 1, v1, v2 => if v2 = 0 then some v1 else ms_pq n (sd_w (v1 + 1)) (sd_and v2 (sd_w (v2 - 1)))
theorem ms_pq_f (M : sd_M) : ∀ n v1 v2, f_X10_bits_4 n v1 v2 M = (ms_pq n v1 v2).bind fun r => some (r, M)
  | 0, _, _ => rfl
  | n + 1, v1, v2 => by
    rw [f_X10_bits_4, ms_pq]
    split
    · rfl
    · exact ms_pq_f M n _ _
theorem ms_pq_v : ∀ v : Fin 512, ms_pq 4000 0 (v.val : Int) = some (ms_pp (v.val : Int)) := by decide +kernel
theorem rf_bits {M : sd_M} {x : Int} (h : 0 ≤ x ∧ x < 512) : f_X10_bits x M = some (ms_pp x, M) := by
  obtain ⟨v, rfl⟩ : ∃ v : Nat, x = v := ⟨x.toNat, by omega⟩
  unfold f_X10_bits
  rw [ms_pq_f, ms_pq_v ⟨v, by omega⟩]
  rfl
theorem ms_bc_v : ∀ v : Fin 512, ((f_J6_bitCount_0f7a4 (v.val : Int) (fun _ _ => 0)).map (·.1)) = some (ms_pp (v.val : Int)) := by decide +kernel
theorem cl_bitCount {M : sd_M} {x : Int} (h : 0 ≤ x ∧ x < 512) : f_J6_bitCount_0f7a4 x M = some (ms_pp x, M) := by
  obtain ⟨v, rfl⟩ : ∃ v : Nat, x = v := ⟨x.toNat, by omega⟩
  have e := ms_bc_v ⟨v, by omega⟩
  have e2 : f_J6_bitCount_0f7a4 (v : Int) M = ((f_J6_bitCount_0f7a4 (v : Int) (fun _ _ => 0)).map (·.1)).bind fun r => some (r, M) := rfl
  rw [e2, e]
  rfl
