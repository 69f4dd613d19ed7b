/-! rows: the nth of all rows of some that wait -/
def ms_fa : Nat → Int
  | 0 => 1
  | n + 1 => ((n + 1 : Nat) : Int) * ms_fa n
/-- the one of some that has so many ahead of it -/
def ms_kf (u : Nat → Bool) (q : Int) : Nat → Nat
  | 0 => 0
  | n + 1 => if u n = true ∧ ms_ct u n = q then n else ms_kf u q n
theorem ms_kf_p {u : Nat → Bool} {q : Int} (hq : 0 ≤ q) : ∀ n, q < ms_ct u n → ms_kf u q n < n ∧ u (ms_kf u q n) = true ∧ ms_ct u (ms_kf u q n) = q
  | 0, h => absurd h (by rw [ms_ct]; omega)
  | n + 1, h => by
    rw [ms_kf]
    by_cases c : u n = true ∧ ms_ct u n = q
    · rw [if_pos c]
      exact ⟨by omega, c.1, c.2⟩
    · rw [if_neg c]
      have g : q < ms_ct u n := by
        rw [ms_ct] at h
        by_cases d : u n = true
        · rw [if_pos d] at h
          by_cases e : ms_ct u n = q
          · exact absurd ⟨d, e⟩ c
          · omega
        · rw [if_neg d] at h
          omega
      obtain ⟨a, b, d⟩ := ms_kf_p hq n g
      exact ⟨by omega, b, d⟩
theorem ms_ct_lt {u : Nat → Bool} {i j : Nat} (h : i < j) (hu : u i = true) : ms_ct u i < ms_ct u j := by
  have a := ms_ct_n (p := u) (i + 1) (j - (i + 1))
  rw [show i + 1 + (j - (i + 1)) = j by omega] at a
  have b : ms_ct u (i + 1) = ms_ct u i + 1 := by rw [ms_ct, if_pos hu]
  omega
theorem ms_kf_u {u : Nat → Bool} {q : Int} (hq : 0 ≤ q) {n k : Nat} (hk : k < n) (h1 : u k = true) (h2 : ms_ct u k = q) : ms_kf u q n = k := by
  have a := ms_ct_lt hk h1
  have p := ms_kf_p (u := u) hq n (by omega)
  by_cases c : ms_kf u q n < k
  · have := ms_ct_lt c p.2.1
    omega
  · by_cases d : k < ms_kf u q n
    · have := ms_ct_lt d h1
      omega
    · omega
/-- the k-th that waits -/
def ms_wt2 (S : Nat → Int) (k : Nat) : Nat := ms_kf (ms_at S 0) (k : Int) 9
def ms_fs2 (S : Nat → Int) (u : Nat → Bool) : Nat → Bool := fun i => ms_at S 0 i && !(u (ms_ct (ms_at S 0) i).toNat)
theorem ms_fs2_c {S : Nat → Int} {u : Nat → Bool} : ∀ i, ms_ct (ms_fs2 S u) i = ms_ct (fun j => !(u j)) (ms_ct (ms_at S 0) i).toNat
  | 0 => rfl
  | i + 1 => by
    have ih := ms_fs2_c (S := S) (u := u) i
    have cb := ms_ct_b (p := ms_at S 0) i
    have c1 : ms_ct (ms_at S 0) (i + 1) = ms_ct (ms_at S 0) i + if ms_at S 0 i = true then 1 else 0 := rfl
    have c2 : ms_ct (ms_fs2 S u) (i + 1) = ms_ct (ms_fs2 S u) i + if ms_fs2 S u i = true then 1 else 0 := rfl
    rw [c1, c2, ih]
    unfold ms_fs2
    cases e : ms_at S 0 i
    · simp
    · rw [if_pos rfl, show (ms_ct (ms_at S 0) i + 1).toNat = (ms_ct (ms_at S 0) i).toNat + 1 by omega, Bool.true_and]
      rfl
/-- the row: which places of those that wait -/
def ms_rw2 (S : Nat → Int) (n : Nat) : Nat → Nat → Int → (Nat → Bool) → (Nat → Int) → Nat → Int
  | 0, _, _, _, R => R
  | m + 1, pl, left, u, R => ms_rw2 S n m (pl + 1) (left % ms_fa m) (fun j => u j || ms_kf (fun j => !(u j)) (left / ms_fa m) n == j) (ms_u R pl ((ms_wt2 S (ms_kf (fun j => !(u j)) (left / ms_fa m) n) : Nat) : Int))
theorem ms_rw2_e {S : Nat → Int} {n : Nat} : ∀ (m pl : Nat) (left : Int) (u : Nat → Bool) (R Q : Nat → Int), (∀ j, j < pl → R j = Q j) → ∀ j, j < pl + m → ms_rw2 S n m pl left u R j = ms_rw2 S n m pl left u Q j
  | 0, pl, _, _, R, Q, h, j, hj => h j (by omega)
  | m + 1, pl, left, u, R, Q, h, j, hj => by
    rw [ms_rw2, ms_rw2]
    refine ms_rw2_e m (pl + 1) _ _ _ _ (fun i hi => ?_) j (by omega)
    by_cases e : i = pl
    · rw [e, ms_u_at, ms_u_at]
    · rw [ms_u_ne e, ms_u_ne e]
      exact h i (by omega)
theorem ms_fa_b {m : Nat} (h : m < 4) : 1 ≤ ms_fa m ∧ ms_fa m ≤ 6 ∧ ms_fa (m + 1) = (((m + 1 : Nat) : Int)) * ms_fa m := by
  match m, h with
  | 0, _ => exact ⟨by decide, by decide, rfl⟩
  | 1, _ => exact ⟨by decide, by decide, rfl⟩
  | 2, _ => exact ⟨by decide, by decide, rfl⟩
  | 3, _ => exact ⟨by decide, by decide, rfl⟩
/-- where a stage stands -/
def ms_sg2 (S : Nat → Int) (n m : Nat) (left : Int) (u : Nat → Bool) : Prop := (n ≤ 4 ∧ (n : Int) ≤ ms_ct (ms_at S 0) 9) ∧ ms_ct (fun j => !(u j)) n = (m : Int) ∧ (∀ j, n ≤ j → u j = false) ∧ 0 ≤ left ∧ left < ms_fa m
theorem ms_sg2_k {S : Nat → Int} {n m : Nat} {left : Int} {u : Nat → Bool} (hm : m < 4) (h : ms_sg2 S n (m + 1) left u) : (0 ≤ left / ms_fa m) ∧ (ms_kf (fun j => !(u j)) (left / ms_fa m) n < n ∧ u (ms_kf (fun j => !(u j)) (left / ms_fa m) n) = false ∧ ms_ct (fun j => !(u j)) (ms_kf (fun j => !(u j)) (left / ms_fa m) n) = left / ms_fa m) ∧ ms_sg2 S n m (left % ms_fa m) (fun j => u j || ms_kf (fun j => !(u j)) (left / ms_fa m) n == j) := by
  obtain ⟨h1, h2, h3, h4, h5⟩ := h
  have fb := ms_fa_b hm
  have q0 : 0 ≤ left / ms_fa m := Int.ediv_nonneg h4 (by omega)
  have q1 : left / ms_fa m < ((m + 1 : Nat) : Int) := by
    rw [fb.2.2] at h5
    exact Int.ediv_lt_of_lt_mul (by omega) (by rw [Int.mul_comm] at h5; rw [Int.mul_comm]; exact h5)
  have k := ms_kf_p (u := fun j => !(u j)) q0 n (by rw [h2]; exact q1)
  have uk : u (ms_kf (fun j => !(u j)) (left / ms_fa m) n) = false := by
    have := k.2.1
    simpa using this
  refine ⟨q0, ⟨k.1, uk, k.2.2⟩, h1, ?_, fun j hj => ?_, Int.emod_nonneg _ (by omega), Int.emod_lt_of_pos _ (by omega)⟩
  · have c := ms_ct_i (p := fun j => !(u j || ms_kf (fun j => !(u j)) (left / ms_fa m) n == j)) (q := fun j => !(u j)) (j := ms_kf (fun j => !(u j)) (left / ms_fa m) n) ⟨by simp, k.2.1⟩ n (fun i hi hne => by
      have : (ms_kf (fun j => !(u j)) (left / ms_fa m) n == i) = false := by
        simp only [beq_eq_false_iff_ne, ne_eq]
        omega
      rw [this, Bool.or_false]) k.1
    rw [h2] at c
    push_cast at c
    show ms_ct (fun j => !(u j || ms_kf (fun j => !(u j)) (left / ms_fa m) n == j)) n = (m : Int)
    omega
  · have : (ms_kf (fun j => !(u j)) (left / ms_fa m) n == j) = false := by
      simp only [beq_eq_false_iff_ne, ne_eq]
      omega
    simp only []
    rw [this, h3 j hj]
    rfl
theorem ms_wt2_p {S : Nat → Int} {k : Nat} (h : (k : Int) < ms_ct (ms_at S 0) 9) : ms_wt2 S k < 9 ∧ ms_at S 0 (ms_wt2 S k) = true ∧ ms_ct (ms_at S 0) (ms_wt2 S k) = (k : Int) := ms_kf_p (by omega) 9 h
/-- what is left, taken off instead of reckoned as a rest -/
theorem ms_rst {a b : Int} (h0 : 0 ≤ a) (h1 : a < 24) (hb : 1 ≤ b) : sd_w (a - sd_w (a / b * b)) = a % b := by
  have e := Int.emod_def a b
  have r0 := Int.emod_nonneg a (show b ≠ 0 by omega)
  have p0 : 0 ≤ b * (a / b) := Int.mul_nonneg (by omega) (Int.ediv_nonneg h0 (by omega))
  rw [Int.mul_comm (a / b) b, sd_wid (z := b * (a / b)) (by omega) (by omega), sd_wid (z := a - b * (a / b)) (by omega) (by omega)]
  exact e.symm
/-! the class lays it -/
theorem cl_lay_46 {m : Nat} (hm : m < 4) (kk : Int → Int → Int → Int → Int → sd_M → Option (Int × sd_M)) {v2 v3 v4 v5 : Int} (e : v2 - v5 = (m : Int) + 1) (hb : 0 ≤ v5 ∧ v5 ≤ 4) (M : sd_M) : f_X9_layRow_46 kk 4000 v2 v3 v4 v5 1 2 M = kk v2 v3 v4 v5 (ms_fa m) M := by
  have st : ∀ (f : Nat) (a i : Int), 0 ≤ a → a ≤ 6 → 2 ≤ i → i ≤ 4 → f_X9_layRow_46 kk (f + 1) v2 v3 v4 v5 a i M = if (m : Int) + 1 ≤ i then kk v2 v3 v4 v5 a M else f_X9_layRow_46 kk f v2 v3 v4 v5 (a * i) (i + 1) M := fun f a i a0 a6 i2 i4 => by
    have ai : 0 ≤ a * i ∧ a * i ≤ 24 := by
      constructor
      · exact Int.mul_nonneg a0 (by omega)
      · have := Int.mul_le_mul a6 i4 (by omega) (by omega)
        omega
    rw [f_X9_layRow_46, sd_wid (z := v2 - v5) (by omega) (by omega), e, sd_wid (z := a * i) (by omega) (by omega), sd_wid (z := i + 1) (by omega) (by omega)]
  match m, hm with
  | 0, _ => rw [st 3999 1 2 (by omega) (by omega) (by omega) (by omega), if_pos (by omega)]; rfl
  | 1, _ => rw [st 3999 1 2 (by omega) (by omega) (by omega) (by omega), if_pos (by omega)]; rfl
  | 2, _ => rw [st 3999 1 2 (by omega) (by omega) (by omega) (by omega), if_neg (by omega), st 3998 _ _ (by omega) (by omega) (by omega) (by omega), if_pos (by omega)]; rfl
  | 3, _ => rw [st 3999 1 2 (by omega) (by omega) (by omega) (by omega), if_neg (by omega), st 3998 _ _ (by omega) (by omega) (by omega) (by omega), if_neg (by omega), st 3997 _ _ (by omega) (by omega) (by omega) (by omega), if_pos (by omega)]; rfl
theorem cl_lay_28 {M0 : sd_M} {S : Nat → Int} {n : Nat} : ∀ (m pl fu : Nat) (left : Int) (u : Nat → Bool) (M : sd_M), pl + m = n → m < fu → ms_sg2 S n m left u → (∀ a, a ≠ 327 → M a = M0 a) → ms_T (f_X9_layRow_28 fu (n : Int) (ms_bt (ms_fs2 S u) 9) left (pl : Int) M) (fun _ N => N 327 = ms_rw2 S n m pl left u (M 327) ∧ ∀ a, a ≠ 327 → N a = M0 a) := by
  intro m
  induction m with
  | zero =>
    intro pl fu left u M hp hf g fr
    obtain ⟨fu, rfl⟩ : ∃ g, fu = g + 1 := ⟨fu - 1, by omega⟩
    rw [f_X9_layRow_28, if_pos (by omega)]
    exact ms_t_r ⟨rfl, fr⟩
  | succ m ih =>
    intro pl fu left u M hp hf g fr
    obtain ⟨fu, rfl⟩ : ∃ g, fu = g + 1 := ⟨fu - 1, by omega⟩
    have n4 := g.1
    obtain ⟨q0, k, g2⟩ := ms_sg2_k (by omega) g
    have fb := ms_fa_b (m := m) (by omega)
    have l0 := g.2.2.2
    have l24 : left < 24 := by
      have : ms_fa (m + 1) ≤ 24 := by
        have : m = 0 ∨ m = 1 ∨ m = 2 ∨ m = 3 := by omega
        rcases this with h | h | h | h <;> subst h <;> decide
      omega
    have w := ms_wt2_p (S := S) (k := ms_kf (fun j => !(u j)) (left / ms_fa m) n) (by omega)
    have pf : ms_fs2 S u (ms_wt2 S (ms_kf (fun j => !(u j)) (left / ms_fa m) n)) = true := by
      unfold ms_fs2
      rw [w.2.1, w.2.2, Int.toNat_natCast, k.2.1]
      rfl
    have rk : ms_ct (ms_fs2 S u) (ms_wt2 S (ms_kf (fun j => !(u j)) (left / ms_fa m) n)) = left / ms_fa m := by rw [ms_fs2_c, w.2.2, Int.toNat_natCast, k.2.2]
    have nb := cl_nth (M := M) w.1 pf
    rw [rk] at nb
    have lq : left / ms_fa m ≤ left := Int.ediv_le_self _ l0.1
    rw [f_X9_layRow_28, if_neg (by omega), if_neg (by omega), cl_lay_46 (m := m) (by omega) _ (by omega) (by omega), f_X9_layRow_68, if_neg (show ¬ (ms_fa m ≤ 0) by omega), if_pos (show ms_fa m ≠ 0 by omega), ms_tdiv l0.1, sd_wid (z := left / ms_fa m) (by omega) (by omega), f_X9_layRow_82, nb, Option.bind_some]
    simp only []
    rw [if_pos (by omega), if_pos (by omega), Int.toNat_natCast, sd_s_at, ms_rst l0.1 l24 fb.1, sd_wid (z := (pl : Int) + 1) (by omega) (by omega), ms_bt_a w.1]
    have fe : ms_bt (fun j => ms_fs2 S u j && !(ms_wt2 S (ms_kf (fun j => !(u j)) (left / ms_fa m) n) == j)) 9 = ms_bt (ms_fs2 S (fun j => u j || ms_kf (fun j => !(u j)) (left / ms_fa m) n == j)) 9 := ms_bt_c 9 (fun i hi => by
      unfold ms_fs2
      cases a : ms_at S 0 i
      · simp
      · have cb := ms_ct_b (p := ms_at S 0) i
        have eq : (ms_wt2 S (ms_kf (fun j => !(u j)) (left / ms_fa m) n) == i) = (ms_kf (fun j => !(u j)) (left / ms_fa m) n == (ms_ct (ms_at S 0) i).toNat) := by
          rw [Bool.eq_iff_iff]
          simp only [beq_iff_eq]
          constructor
          · intro x
            rw [← x, w.2.2, Int.toNat_natCast]
          · intro x
            exact ms_kf_u (by omega) hi a (by omega)
        rw [eq]
        show ((true && !(u (ms_ct (ms_at S 0) i).toNat)) && !(ms_kf (fun j => !(u j)) (left / ms_fa m) n == (ms_ct (ms_at S 0) i).toNat)) = (true && !(u (ms_ct (ms_at S 0) i).toNat || ms_kf (fun j => !(u j)) (left / ms_fa m) n == (ms_ct (ms_at S 0) i).toNat))
        cases u (ms_ct (ms_at S 0) i).toNat <;> cases (ms_kf (fun j => !(u j)) (left / ms_fa m) n == (ms_ct (ms_at S 0) i).toNat) <;> rfl)
    rw [fe]
    have up := ih (pl + 1) fu (left % ms_fa m) _ (sd_s M 327 pl ((ms_wt2 S (ms_kf (fun j => !(u j)) (left / ms_fa m) n) : Nat) : Int)) (by omega) (by omega) g2 (fun a x => by rw [sd_s_a x, fr a x])
    push_cast at up
    rw [sd_s_row] at up
    rw [ms_rw2]
    exact up
/-! the reference lays it -/
theorem rf_ways {m : Nat} (hm : m < 5) (M : sd_M) : f_X10_waysOf (m : Int) M = some (ms_fa m, M) := by
  have st : ∀ (f : Nat) (a i : Int), 0 ≤ a → a ≤ 24 → 2 ≤ i → i ≤ 5 → f_X10_waysOf_4 (f + 1) (m : Int) a i M = if (m : Int) < i then some (a, M) else f_X10_waysOf_4 f (m : Int) (a * i) (i + 1) M := fun f a i a0 a6 i2 i4 => by
    have ai : 0 ≤ a * i ∧ a * i ≤ 120 := by
      constructor
      · exact Int.mul_nonneg a0 (by omega)
      · have := Int.mul_le_mul a6 i4 (by omega) (by omega)
        omega
    rw [f_X10_waysOf_4, sd_wid (z := a * i) (by omega) (by omega), sd_wid (z := i + 1) (by omega) (by omega)]
  unfold f_X10_waysOf
  match m, hm with
  | 0, _ => rw [st 3999 1 2 (by omega) (by omega) (by omega) (by omega), if_pos (by omega)]; rfl
  | 1, _ => rw [st 3999 1 2 (by omega) (by omega) (by omega) (by omega), if_pos (by omega)]; rfl
  | 2, _ => rw [st 3999 1 2 (by omega) (by omega) (by omega) (by omega), if_neg (by omega), st 3998 _ _ (by omega) (by omega) (by omega) (by omega), if_pos (by omega)]; rfl
  | 3, _ => rw [st 3999 1 2 (by omega) (by omega) (by omega) (by omega), if_neg (by omega), st 3998 _ _ (by omega) (by omega) (by omega) (by omega), if_neg (by omega), st 3997 _ _ (by omega) (by omega) (by omega) (by omega), if_pos (by omega)]; rfl
  | 4, _ => rw [st 3999 1 2 (by omega) (by omega) (by omega) (by omega), if_neg (by omega), st 3998 _ _ (by omega) (by omega) (by omega) (by omega), if_neg (by omega), st 3997 _ _ (by omega) (by omega) (by omega) (by omega), if_neg (by omega), st 3996 _ _ (by omega) (by omega) (by omega) (by omega), if_pos (by omega)]; rfl
theorem rf_row_39 {M : sd_M} {u : Nat → Bool} {k : Nat} (hk : k < 4) (uk : u k = false) (kk : Int → Int → Int → Int → Int → sd_M → Option (Int × sd_M)) (v2 v4 v5 : Int) : ∀ (m i fu : Nat), i + m = k → m < fu → f_X10_rowOf_39 kk fu v2 (ms_bt u 9) v4 v5 (ms_ct (fun j => !(u j)) k - ms_ct (fun j => !(u j)) i) (i : Int) M = kk v2 (ms_bt u 9) v4 v5 (k : Int) M := by
  intro m
  induction m with
  | zero =>
    intro i fu hi hf
    obtain ⟨fu, rfl⟩ : ∃ g, fu = g + 1 := ⟨fu - 1, by omega⟩
    obtain rfl : i = k := by omega
    rw [f_X10_rowOf_39, rf_isOf (by omega), Option.bind_some]
    simp only []
    rw [ms_i0 (by rw [uk]; simp), if_pos rfl, if_pos (by omega)]
  | succ m ih =>
    intro i fu hi hf
    obtain ⟨fu, rfl⟩ : ∃ g, fu = g + 1 := ⟨fu - 1, by omega⟩
    have up := ih (i + 1) fu (by omega) (by omega)
    have ci := ms_ct_b (p := fun j => !(u j)) i
    have ck := ms_ct_b (p := fun j => !(u j)) k
    have c1 : ms_ct (fun j => !(u j)) (i + 1) = ms_ct (fun j => !(u j)) i + if (!(u i)) = true then 1 else 0 := rfl
    rw [c1] at up
    push_cast at up
    have s53 : f_X10_rowOf_53 (f_X10_rowOf_39 kk fu) kk v2 (ms_bt u 9) v4 v5 (ms_ct (fun j => !(u j)) k - ms_ct (fun j => !(u j)) i) (i : Int) M = kk v2 (ms_bt u 9) v4 v5 (k : Int) M := by
      rw [f_X10_rowOf_53, rf_isOf (by omega), Option.bind_some]
      simp only [f_X10_rowOf_69]
      rw [sd_wid (z := (i : Int) + 1) (by omega) (by omega)]
      cases e : u i
      · rw [e] at up
        simp only [Bool.not_false, if_true] at up
        rw [ms_i0 (by simp), if_pos rfl, sd_wid (by omega) (by omega), show ms_ct (fun j => !(u j)) k - ms_ct (fun j => !(u j)) i - 1 = ms_ct (fun j => !(u j)) k - (ms_ct (fun j => !(u j)) i + 1) by omega]
        exact up
      · rw [e] at up
        simp only [Bool.not_true, Bool.false_eq_true, if_false, Int.add_zero] at up
        rw [ms_i1 rfl, if_neg (by omega), Int.sub_zero, sd_wid (by omega) (by omega)]
        exact up
    rw [f_X10_rowOf_39, rf_isOf (by omega), Option.bind_some]
    simp only []
    cases e : u i
    · have lt := ms_ct_lt (u := fun j => !(u j)) (i := i) (j := k) (by omega) (by simp [e])
      rw [ms_i0 (by simp), if_pos rfl, if_neg (by omega)]
      exact s53
    · rw [ms_i1 rfl, if_neg (by omega)]
      exact s53
theorem rf_row_7 {M0 : sd_M} {S : Nat → Int} {n : Nat} (h32 : M0 331 32 = n) (hw : ∀ j, j < n → M0 347 j = (ms_wt2 S j : Nat)) : ∀ (m pl fu : Nat) (left : Int) (u : Nat → Bool) (M : sd_M), pl + m = n → m < fu → ms_sg2 S n m left u → (∀ a, a ≠ 348 → M a = M0 a) → ms_T (f_X10_rowOf_7 fu left (ms_bt u 9) (pl : Int) M) (fun _ N => N 348 = ms_rw2 S n m pl left u (M 348) ∧ ∀ a, a ≠ 348 → N a = M0 a) := by
  intro m
  induction m with
  | zero =>
    intro pl fu left u M hp hf g fr
    obtain ⟨fu, rfl⟩ : ∃ g, fu = g + 1 := ⟨fu - 1, by omega⟩
    rw [f_X10_rowOf_7, fr 331 (by omega), h32, if_pos (by omega)]
    exact ms_t_r ⟨rfl, fr⟩
  | succ m ih =>
    intro pl fu left u M hp hf g fr
    obtain ⟨fu, rfl⟩ : ∃ g, fu = g + 1 := ⟨fu - 1, by omega⟩
    have n4 := g.1
    obtain ⟨q0, k, g2⟩ := ms_sg2_k (by omega) g
    have fb := ms_fa_b (m := m) (by omega)
    have l0 := g.2.2.2
    have l24 : left < 24 := by
      have : ms_fa (m + 1) ≤ 24 := by
        have : m = 0 ∨ m = 1 ∨ m = 2 ∨ m = 3 := by omega
        rcases this with h | h | h | h <;> subst h <;> decide
      omega
    have lq : left / ms_fa m ≤ left := Int.ediv_le_self _ l0.1
    rw [f_X10_rowOf_7, fr 331 (by omega), h32, if_neg (by omega), sd_wid (z := (n : Int) - 1) (by omega) (by omega), sd_wid (z := (n : Int) - 1 - (pl : Int)) (by omega) (by omega), show (n : Int) - 1 - (pl : Int) = m by omega, rf_ways (by omega), Option.bind_some]
    simp only []
    rw [if_pos (by omega), ms_tdiv l0.1, sd_wid (z := left / ms_fa m) (by omega) (by omega)]
    have z := rf_row_39 (M := M) (k := ms_kf (fun j => !(u j)) (left / ms_fa m) n) (by omega) k.2.1 (f_X10_rowOf_78 (f_X10_rowOf_7 fu)) left (pl : Int) (ms_fa m) (ms_kf (fun j => !(u j)) (left / ms_fa m) n) 0 4000 (by omega) (by omega)
    have c0 : ms_ct (fun j => !(u j)) 0 = 0 := rfl
    rw [c0, Int.sub_zero, k.2.2] at z
    have z' : f_X10_rowOf_39 (f_X10_rowOf_78 (f_X10_rowOf_7 fu)) 4000 left (ms_bt u 9) (pl : Int) (ms_fa m) (left / ms_fa m) 0 M = _ := z
    rw [z', f_X10_rowOf_78, if_pos (by omega), if_pos (by omega), if_pos (by omega), ms_tmod l0.1, sd_wid (by omega) (by omega), Int.toNat_natCast, Int.toNat_natCast, fr 347 (by omega), hw _ k.1, ms_bt_o (by omega)]
    have up := ih (pl + 1) fu (left % ms_fa m) _ (sd_s M 348 pl ((ms_wt2 S (ms_kf (fun j => !(u j)) (left / ms_fa m) n) : Nat) : Int)) (by omega) (by omega) g2 (fun a x => by rw [sd_s_a x, fr a x])
    push_cast at up
    rw [sd_s_row] at up
    rw [ms_rw2]
    exact up
