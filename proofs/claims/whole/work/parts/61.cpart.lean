/-! the class parts -/
def ms_x9 (b0 b1 b2 b3 b4 b5 b6 b7 b8 : Bool) : Int := (((((((((0 + (if b0 = true then 1 else 0)) + (if b1 = true then 2 else 0)) + (if b2 = true then 4 else 0)) + (if b3 = true then 8 else 0)) + (if b4 = true then 16 else 0)) + (if b5 = true then 32 else 0)) + (if b6 = true then 64 else 0)) + (if b7 = true then 128 else 0)) + (if b8 = true then 256 else 0))
theorem ms_x9_e {p : Nat → Bool} : ms_bt p 9 = ms_x9 (p 0) (p 1) (p 2) (p 3) (p 4) (p 5) (p 6) (p 7) (p 8) := rfl
theorem ms_x_o : ∀ b0 b1 b2 b3 b4 b5 b6 b7 b8 : Bool, ∀ i : Fin 9, sd_or (ms_x9 b0 b1 b2 b3 b4 b5 b6 b7 b8) (sd_shl 1 (i.val : Int)) = ms_x9 (b0 || i.val == 0) (b1 || i.val == 1) (b2 || i.val == 2) (b3 || i.val == 3) (b4 || i.val == 4) (b5 || i.val == 5) (b6 || i.val == 6) (b7 || i.val == 7) (b8 || i.val == 8) := by decide +kernel
theorem ms_x_a : ∀ b0 b1 b2 b3 b4 b5 b6 b7 b8 : Bool, ∀ i : Fin 9, sd_and (ms_x9 b0 b1 b2 b3 b4 b5 b6 b7 b8) (sd_xor (sd_shl 1 (i.val : Int)) (-1)) = ms_x9 (b0 && !(i.val == 0)) (b1 && !(i.val == 1)) (b2 && !(i.val == 2)) (b3 && !(i.val == 3)) (b4 && !(i.val == 4)) (b5 && !(i.val == 5)) (b6 && !(i.val == 6)) (b7 && !(i.val == 7)) (b8 && !(i.val == 8)) := by decide +kernel
theorem ms_bt_o {p : Nat → Bool} {i : Nat} (hi : i < 9) : sd_or (ms_bt p 9) (sd_shl 1 (i : Int)) = ms_bt (fun j => p j || i == j) 9 := by
  rw [ms_x9_e, ms_x9_e]
  exact ms_x_o (p 0) (p 1) (p 2) (p 3) (p 4) (p 5) (p 6) (p 7) (p 8) ⟨i, hi⟩
theorem ms_bt_a {p : Nat → Bool} {i : Nat} (hi : i < 9) : sd_and (ms_bt p 9) (sd_xor (sd_shl 1 (i : Int)) (-1)) = ms_bt (fun j => p j && !(i == j)) 9 := by
  rw [ms_x9_e, ms_x9_e]
  exact ms_x_a (p 0) (p 1) (p 2) (p 3) (p 4) (p 5) (p 6) (p 7) (p 8) ⟨i, hi⟩
theorem ms_bti {p : Nat → Bool} {z : Int} (h : 0 ≤ z ∧ z < 9) : sd_and (sd_shr (ms_bt p 9) z) 1 = if p z.toNat = true then 1 else 0 := by
  have := ms_btt (p := p) (i := z.toNat) (by omega)
  rw [Int.toNat_of_nonneg h.1] at this
  exact this
/-- the lines of a book -/
def cl_ln (M : sd_M) (b n : Nat) : Prop := (n ≤ 9 ∧ M b 3 = n) ∧ (∀ k, k < n → 0 ≤ M (b + 6) k ∧ M (b + 6) k < 9) ∧ ∀ j k, j < n → k < n → M (b + 6) j = M (b + 6) k → j = k
def cl_wt (M : sd_M) (b c : Nat) (q : Nat → Bool) (k : Nat) : Int := if q (M (b + 6) k).toNat = true then M c (M (b + 6) k).toNat else 0
theorem cl_part_6 {M : sd_M} {b n c d : Nat} {q : Nat → Bool} {much x : Int} (hl : cl_ln M b n) (hz : ms_sz much (cl_wt M b c q) n) (hw : ∀ k, k < n → 0 ≤ M c (M (b + 6) k).toNat ∧ M c (M (b + 6) k).toNat ≤ 999) (kk : Int → Int → Int → sd_M → Option (Int × sd_M)) : ∀ (m k fu : Nat), k + m = n → m < fu → f_X0_partAmong_6 kk b c d fu (ms_bt q 9) x (ms_sum (cl_wt M b c q) k) (k : Int) M = kk (ms_bt q 9) x (ms_sum (cl_wt M b c q) n) M := by
  obtain ⟨⟨l1, l2⟩, l3, l4⟩ := hl
  intro m
  induction m with
  | zero =>
    intro k fu hk hf
    obtain ⟨fu, rfl⟩ : ∃ g, fu = g + 1 := ⟨fu - 1, by omega⟩
    obtain rfl : k = n := by omega
    rw [f_X0_partAmong_6, if_pos (by omega)]
  | succ m ih =>
    intro k fu hk hf
    obtain ⟨fu, rfl⟩ : ∃ g, fu = g + 1 := ⟨fu - 1, by omega⟩
    have a := l3 k (by omega)
    have w := hw k (by omega)
    have s := ms_sum_b (w := cl_wt M b c q) (a := 0) (b := 999) k (fun j hj => hz.2 j (by omega))
    have e := ih (k + 1) fu (by omega) (by omega)
    rw [ms_sum] at e
    push_cast at e
    rw [f_X0_partAmong_6, if_neg (by omega), if_pos (by omega), if_pos (by omega), Int.toNat_natCast, if_pos a, ms_bti a, sd_wid (z := (k : Int) + 1) (by omega) (by omega)]
    have v : sd_w ((if q (M (b + 6) k).toNat = true then 1 else 0) * M c (M (b + 6) k).toNat) = cl_wt M b c q k := by
      unfold cl_wt
      split
      · rw [Int.one_mul, sd_wid (by omega) (by omega)]
      · rw [Int.zero_mul]
        rfl
    have u := hz.2 k (by omega)
    rw [v, sd_wid (by omega) (by omega)]
    exact e
theorem cl_wt_0 {M : sd_M} {b c : Nat} {q : Nat → Bool} {k : Nat} (h : q (M (b + 6) k).toNat = false) : cl_wt M b c q k = 0 := by
  unfold cl_wt
  rw [h, if_neg (by decide)]
theorem ms_fl_0 {much : Int} {w : Nat → Int} {n k : Nat} (h : w k = 0) : ms_fl much w n k = 0 := by
  unfold ms_fl
  rw [h, Int.mul_zero, Int.zero_ediv]
/-- so far: a row as the parts are, for members at places below -/
def cl_pd (M0 M : sd_M) (b n d : Nat) (q : Nat → Bool) (j : Nat) (v : Nat → Int) : Prop := (∀ a, a ≠ d → M a = M0 a) ∧ (∀ f, (∀ k, k < n → q (M0 (b + 6) k).toNat = true → f ≠ (M0 (b + 6) k).toNat) → M d f = M0 d f) ∧ ∀ k, k < j → q (M0 (b + 6) k).toNat = true → M d (M0 (b + 6) k).toNat = v k
theorem cl_part_59 {M0 : sd_M} {b n c d : Nat} {q : Nat → Bool} {much : Int} (hl : cl_ln M0 b n) (hz : ms_sz much (cl_wt M0 b c q) n) (hs : 0 < ms_sum (cl_wt M0 b c q) n) (hd : d ≠ b ∧ d ≠ b + 6 ∧ d ≠ c) (kk : Int → Int → Int → Int → sd_M → Option (Int × sd_M)) : ∀ (m k fu : Nat) (M : sd_M), k + m = n → m < fu → cl_pd M0 M b n d q k (ms_fl much (cl_wt M0 b c q) n) → ∃ N, cl_pd M0 N b n d q n (ms_fl much (cl_wt M0 b c q) n) ∧ f_X0_partAmong_59 kk b c d fu (ms_bt q 9) much (ms_sum (cl_wt M0 b c q) n) (much - ms_sum (ms_fl much (cl_wt M0 b c q) n) k) (k : Int) M = kk (ms_bt q 9) much (ms_sum (cl_wt M0 b c q) n) (ms_rs much (cl_wt M0 b c q) n) N := by
  obtain ⟨⟨l1, l2⟩, l3, l4⟩ := hl
  have z1 := hz.1
  intro m
  induction m with
  | zero =>
    intro k fu M hk hf hM
    obtain ⟨fu, rfl⟩ : ∃ g, fu = g + 1 := ⟨fu - 1, by omega⟩
    obtain rfl : k = n := by omega
    refine ⟨M, hM, ?_⟩
    rw [f_X0_partAmong_59, hM.1 b (fun e => hd.1 e.symm), if_pos (by omega)]
    rfl
  | succ m ih =>
    intro k fu M hk hf hM
    obtain ⟨fu, rfl⟩ : ∃ g, fu = g + 1 := ⟨fu - 1, by omega⟩
    have a := l3 k (by omega)
    have f := ms_sz_f hz hs (k := k) (by omega)
    have g := ms_sz_k hz (k := k) (by omega)
    have s := ms_rs_b hz hs k (by omega)
    have e6 : M (b + 6) = M0 (b + 6) := hM.1 _ (fun e => hd.2.1 e.symm)
    have ec : M c = M0 c := hM.1 _ (fun e => hd.2.2 e.symm)
    have sk : ms_sum (ms_fl much (cl_wt M0 b c q) n) (k + 1) = ms_sum (ms_fl much (cl_wt M0 b c q) n) k + ms_fl much (cl_wt M0 b c q) n k := rfl
    have s2 := ms_rs_0 hz hs
    have s3 : ms_sum (ms_fl much (cl_wt M0 b c q) n) (k + 1) ≤ ms_sum (ms_fl much (cl_wt M0 b c q) n) n := ms_sum_mono (fun j hj => (ms_sz_f hz hs hj).1.1) (k + 1) (by omega)
    unfold ms_rs at s2
    rw [f_X0_partAmong_59, hM.1 b (fun e => hd.1 e.symm), if_neg (by omega), if_pos (by omega), Int.toNat_natCast, e6, ms_bti a]
    by_cases mq : q (M0 (b + 6) k).toNat = true
    · have wk : cl_wt M0 b c q k = M0 c (M0 (b + 6) k).toNat := by unfold cl_wt; rw [if_pos mq]
      have fk : sd_w (Int.tdiv (sd_w (much * M0 c (M0 (b + 6) k).toNat)) (ms_sum (cl_wt M0 b c q) n)) = ms_fl much (cl_wt M0 b c q) n k := by
        rw [← wk, sd_wid (z := much * cl_wt M0 b c q k) (by omega) (by omega), ms_tdiv g.1]
        exact sd_wid (by unfold ms_fl at f; omega) (by unfold ms_fl at f; omega)
      have up := ih (k + 1) fu (sd_s M d (M0 (b + 6) k).toNat (ms_fl much (cl_wt M0 b c q) n k)) (by omega) (by omega) ⟨fun x hx => by rw [sd_s_a hx, hM.1 x hx], fun y hy => by rw [sd_s_j (hy k (by omega) mq), hM.2.1 y hy], fun j hj hq => by
        by_cases ej : j = k
        · subst ej; rw [sd_s_at]
        · have ne : (M0 (b + 6) j).toNat ≠ (M0 (b + 6) k).toNat := fun e => ej (l4 j k (by omega) (by omega) (by
            have := l3 j (by omega)
            omega))
          rw [sd_s_j ne, hM.2.2 j (by omega) hq]⟩
      obtain ⟨N, n1, n2⟩ := up
      refine ⟨N, n1, ?_⟩
      rw [← n2, if_pos (by rw [if_pos mq]), if_pos a, if_pos (by omega), if_pos a, if_pos a, ec, fk, sd_s_at, f_X0_partAmong_111, sd_wid (z := (k : Int) + 1) (by omega) (by omega), sd_wid (by omega) (by omega), sk, Int.sub_sub]
      push_cast
      rfl
    · have mf : q (M0 (b + 6) k).toNat = false := Bool.eq_false_iff.mpr mq
      have f0 := ms_fl_0 (much := much) (n := n) (cl_wt_0 (M := M0) (b := b) (c := c) mf)
      have up := ih (k + 1) fu M (by omega) (by omega) ⟨hM.1, hM.2.1, fun j hj hq => by
        by_cases ej : j = k
        · subst ej; rw [mf] at hq; exact absurd hq (by decide)
        · exact hM.2.2 j (by omega) hq⟩
      obtain ⟨N, n1, n2⟩ := up
      refine ⟨N, n1, ?_⟩
      rw [← n2, if_neg (by rw [if_neg mq]; decide), f_X0_partAmong_111, sd_wid (z := (k : Int) + 1) (by omega) (by omega), sk, f0, Int.add_zero]
      push_cast
      rfl
