/-! rows: the reference; both -/
theorem cl_rows_59 {m : Nat} (hm : m < 5) (kk : Int → Int → Int → sd_M → Option (Int × sd_M)) (w : Int) (M : sd_M) : f_X9_rows_59 kk 4000 w (m : Int) 1 2 M = kk w (m : Int) (ms_fa m) M := by
  have st : ∀ (f : Nat) (a i : Int), 0 ≤ a → a ≤ 24 → 2 ≤ i → i ≤ 5 → f_X9_rows_59 kk (f + 1) w (m : Int) a i M = if (m : Int) < i then kk w (m : Int) a M else f_X9_rows_59 kk f w (m : Int) (a * i) (i + 1) M := fun f a i a0 a6 i2 i4 => by
    have ai : 0 ≤ a * i ∧ a * i ≤ 120 := by
      constructor
      · exact Int.mul_nonneg a0 (by omega)
      · have := Int.mul_le_mul a6 i4 (by omega) (by omega)
        omega
    rw [f_X9_rows_59, sd_wid (z := a * i) (by omega) (by omega), sd_wid (z := i + 1) (by omega) (by omega)]
  match m, hm with
  | 0, _ => rw [st 3999 1 2 (by omega) (by omega) (by omega) (by omega), if_pos (by omega)]; rfl
  | 1, _ => rw [st 3999 1 2 (by omega) (by omega) (by omega) (by omega), if_pos (by omega)]; rfl
  | 2, _ => rw [st 3999 1 2 (by omega) (by omega) (by omega) (by omega), if_neg (by omega), st 3998 _ _ (by omega) (by omega) (by omega) (by omega), if_pos (by omega)]; rfl
  | 3, _ => rw [st 3999 1 2 (by omega) (by omega) (by omega) (by omega), if_neg (by omega), st 3998 _ _ (by omega) (by omega) (by omega) (by omega), if_neg (by omega), st 3997 _ _ (by omega) (by omega) (by omega) (by omega), if_pos (by omega)]; rfl
  | 4, _ => rw [st 3999 1 2 (by omega) (by omega) (by omega) (by omega), if_neg (by omega), st 3998 _ _ (by omega) (by omega) (by omega) (by omega), if_neg (by omega), st 3997 _ _ (by omega) (by omega) (by omega) (by omega), if_neg (by omega), st 3996 _ _ (by omega) (by omega) (by omega) (by omega), if_pos (by omega)]; rfl
def ms_c4 (S : Nat → Int) (f : Nat) : Int := if ms_ct (ms_at S 0) f < 4 then ms_ct (ms_at S 0) f else 4
theorem ms_c4_9 {S : Nat → Int} : ms_c4 S 9 = ((ms_nw S : Nat) : Int) := by
  have cb := ms_ct_b (p := ms_at S 0) 9
  unfold ms_c4 ms_nw
  split <;> omega
theorem rf_rows_29 {M0 : sd_M} {S : Nat → Int} (ok : ms_ok S) (kk : Int → sd_M → Option (Int × sd_M)) (w : Int) : ∀ (m f fu : Nat) (M : sd_M), (f : Int) + m = S 2 → m < fu → M 331 32 = ms_c4 S f → (∀ j : Nat, (j : Int) < ms_c4 S f → M 347 j = ((ms_wt2 S j : Nat) : Int)) → M 341 = S → rf_v M0 M → ∃ N : sd_M, N 331 32 = ((ms_nw S : Nat) : Int) ∧ (∀ j, j < ms_nw S → N 347 j = ((ms_wt2 S j : Nat) : Int)) ∧ N 341 = S ∧ rf_v M0 N ∧ f_X10_rows_29 kk fu w (f : Int) M = kk w N := by
  have l := ms_lines ok
  have nw := ms_c4_9 (S := S)
  intro m
  induction m with
  | zero =>
    intro f fu M hf hfu e32 r e y
    obtain ⟨fu, rfl⟩ : ∃ g, fu = g + 1 := ⟨fu - 1, by omega⟩
    have c9 : ms_ct (ms_at S 0) 9 = ms_ct (ms_at S 0) f := by
      have : ∀ d, f + d ≤ 9 → ms_ct (ms_at S 0) (f + d) = ms_ct (ms_at S 0) f := fun d => by
        induction d with
        | zero => intro _; rfl
        | succ d ih =>
          intro hd
          have z : ms_at S 0 (f + d) = false := by
            have : ¬ (((f + d : Nat) : Int) < S 2) := by omega
            unfold ms_at
            rw [decide_eq_false this, Bool.false_and]
          rw [← Nat.add_assoc, ms_ct, z, if_neg (by simp), ih (by omega), Int.add_zero]
      have := this (9 - f) (by omega)
      rw [show f + (9 - f) = 9 by omega] at this
      exact this
    have c4 : ms_c4 S f = ((ms_nw S : Nat) : Int) := by
      rw [← nw]
      unfold ms_c4
      rw [c9]
    rw [c4] at e32 r
    refine ⟨M, e32, fun j hj => r j (by omega), e, y, ?_⟩
    rw [f_X10_rows_29, e, if_pos (by omega)]
  | succ m ih =>
    intro f fu M hf hfu e32 r e y
    obtain ⟨fu, rfl⟩ : ∃ g, fu = g + 1 := ⟨fu - 1, by omega⟩
    have cb := ms_ct_b (p := ms_at S 0) f
    have mo := ms_ct_n (p := ms_at S 0) f (9 - f)
    rw [show f + (9 - f) = 9 by omega] at mo
    have c1 : ms_ct (ms_at S 0) (f + 1) = ms_ct (ms_at S 0) f + if ms_at S 0 f = true then 1 else 0 := rfl
    rw [f_X10_rows_29, e, if_neg (by omega), e32]
    by_cases c : 4 ≤ ms_c4 S f
    · rw [if_pos c]
      have c4 : ms_c4 S f = ((ms_nw S : Nat) : Int) := by
        rw [← nw]
        unfold ms_c4 at c ⊢
        split at c
        · omega
        · rw [if_neg (by omega), if_neg (by omega)]
      rw [c4] at e32 r
      exact ⟨M, e32, fun j hj => r j (by omega), e, y, rfl⟩
    · rw [if_neg c, rf_isWaiting (by rw [e]; exact ok), e, Int.toNat_natCast, Option.bind_some]
      simp only [f_X10_rows_78]
      rw [sd_wid (z := (f : Int) + 1) (by omega) (by omega)]
      have c4 : ms_c4 S f = ms_ct (ms_at S 0) f := by
        unfold ms_c4 at c ⊢
        split at c
        · rw [if_pos (by omega)]
        · omega
      by_cases g : S (71 + f) = 0
      · have at1 : ms_at S 0 f = true := ms_at_t (by omega) g
        rw [at1, if_pos rfl] at c1
        have c41 : ms_c4 S (f + 1) = ms_ct (ms_at S 0) f + 1 := by
          unfold ms_c4
          rw [c1]
          split <;> omega
        obtain ⟨q, hq⟩ : ∃ q : Nat, ms_ct (ms_at S 0) f = q := ⟨(ms_ct (ms_at S 0) f).toNat, by omega⟩
        have wq : ms_wt2 S q = f := ms_kf_u (by omega) (by omega) at1 hq
        have m32 : M 331 32 = q := by rw [e32, c4, hq]
        rw [ms_i1 ⟨by omega, g⟩, if_neg (by omega), if_pos (show 0 ≤ M 331 32 ∧ M 331 32 < 4 by omega), m32, Int.toNat_natCast]
        have s32 : sd_s M 347 q (f : Int) 331 32 = q := by rw [sd_s_a (by omega), m32]
        rw [s32, sd_wid (by omega) (by omega)]
        obtain ⟨N, n1, n2, n3, n4, n5⟩ := ih (f + 1) fu (sd_s (sd_s M 347 q (f : Int)) 331 32 ((q : Int) + 1)) (by omega) (by omega) (by rw [sd_s_at, c41, hq]) (fun j hj => by
          rw [c41, hq] at hj
          rw [sd_s_a (by omega)]
          by_cases jq : j = q
          · rw [jq, sd_s_at, wq]
          · rw [sd_s_j jq]
            exact r j (by rw [c4, hq]; omega)) (by rw [sd_s_a (by omega), sd_s_a (by omega), e]) (rf_v_tr y (rf_v_tr (rf_v_s (by omega)) (rf_v_s (by omega))))
        refine ⟨N, n1, n2, n3, n4, ?_⟩
        push_cast at n5
        exact n5
      · have at0 : ms_at S 0 f = false := by
          unfold ms_at
          rw [decide_eq_false g, Bool.and_false]
        rw [at0, if_neg (by simp), Int.add_zero] at c1
        have c41 : ms_c4 S (f + 1) = ms_c4 S f := by
          unfold ms_c4
          rw [c1]
        obtain ⟨N, n1, n2, n3, n4, n5⟩ := ih (f + 1) fu M (by omega) (by omega) (by rw [e32, c41]) (by rw [c41]; exact r) e y
        refine ⟨N, n1, n2, n3, n4, ?_⟩
        push_cast at n5
        rw [ms_i0 (fun z => g z.2), if_pos rfl]
        exact n5
/-- one row tried -/
theorem rf_tries {M0 M : sd_M} {S : Nat → Int} (ok : ms_ok S) {i : Nat} (li : (i : Int) < ms_fa (ms_nw S)) (kp : rf_kp M0 S) (y : rf_v M0 M) (e : M 341 = S) (e32 : M 331 32 = ((ms_nw S : Nat) : Int)) (r : ∀ j, j < ms_nw S → M 348 j = ms_ri S (ms_nw S) i j) (b1 : 0 < i → M 331 33 = (ms_bw S (ms_nw S) i).1 ∧ M 331 34 = (ms_bw S (ms_nw S) i).2.1 ∧ ∀ j, j < ms_nw S → M 349 j = (ms_bw S (ms_nw S) i).2.2 j) : ms_T (f_X10_triesRow (if i = 0 then 1 else 0) M) (fun _ N => rf_v M0 N ∧ N 341 = S ∧ N 331 32 = ((ms_nw S : Nat) : Int) ∧ N 347 = M 347 ∧ N 331 33 = (ms_bw S (ms_nw S) (i + 1)).1 ∧ N 331 34 = (ms_bw S (ms_nw S) (i + 1)).2.1 ∧ ∀ j, j < ms_nw S → N 349 j = (ms_bw S (ms_nw S) (i + 1)).2.2 j) := by
  have nb := ms_nw_b (S := S)
  have wy := ms_wy_0 ok li
  obtain ⟨N1, d1, t1, e1⟩ := rf_try_2 (M0 := M) nb.1 f_X10_triesRow_30 (if i = 0 then 1 else 0) (ms_nw S) 0 4000 S M (by omega) (by omega) wy e32 r e rf_d_rf
  have e1' : f_X10_triesRow (if i = 0 then 1 else 0) M = f_X10_triesRow_30 (if i = 0 then 1 else 0) N1 := e1
  have tok := ms_tq_ok (ms_nw S) 0 S (by omega) wy
  have t1' : N1 341 = ms_ti S (ms_nw S) i := t1
  have tk1 : ms_ok (ms_ti S (ms_nw S) i) := tok.1
  have tk2 : ms_ou S (ms_ti S (ms_nw S) i) := tok.2
  have y1 : rf_v M0 N1 := rf_v_tr y (rf_v_d d1)
  have kp1 : rf_kp N1 S := fun k hk => by
    rw [y1.1 346 (by omega) (by omega) (by omega)]
    exact kp k hk
  rw [e1', f_X10_triesRow_30, rf_shortNow (by rw [t1']; exact tk1), Option.bind_some, t1']
  simp only []
  refine ms_t_b (rf_laysBack (M := N1) (S := S) kp1 (by rw [t1']; exact tk2)) (fun _ N2 h2 => ?_)
  simp only []
  rw [t1']
  have y2 : rf_v M0 N2 := rf_v_tr y1 (rf_v_d (rf_d_41 h2.2))
  have g31 : ∀ j, j ≠ 18 → N2 331 j = M 331 j := fun j hj => by rw [h2.2 331 (by omega), d1.2 j hj]
  have g48 : N2 348 = M 348 := by rw [h2.2 348 (by omega), d1.1 348 (by omega) (by omega) (by omega) (by omega) (by omega) (by omega) (by omega)]
  have g49 : N2 349 = M 349 := by rw [h2.2 349 (by omega), d1.1 349 (by omega) (by omega) (by omega) (by omega) (by omega) (by omega) (by omega)]
  have g47 : N2 347 = M 347 := by rw [h2.2 347 (by omega), d1.1 347 (by omega) (by omega) (by omega) (by omega) (by omega) (by omega) (by omega)]
  have bw1 : ms_bw S (ms_nw S) (i + 1) = if i = 0 ∨ (ms_sh (ms_ti S (ms_nw S) i) < (ms_bw S (ms_nw S) i).1 ∨ (ms_sh (ms_ti S (ms_nw S) i) = (ms_bw S (ms_nw S) i).1 ∧ (ms_bw S (ms_nw S) i).2.1 < ms_ti S (ms_nw S) i 60)) then (ms_sh (ms_ti S (ms_nw S) i), ms_ti S (ms_nw S) i 60, ms_ri S (ms_nw S) i) else ms_bw S (ms_nw S) i := rfl
  have yes : (i = 0 ∨ (ms_sh (ms_ti S (ms_nw S) i) < (ms_bw S (ms_nw S) i).1 ∨ (ms_sh (ms_ti S (ms_nw S) i) = (ms_bw S (ms_nw S) i).1 ∧ (ms_bw S (ms_nw S) i).2.1 < ms_ti S (ms_nw S) i 60))) → ms_T (f_X10_triesRow_76 (ms_sh (ms_ti S (ms_nw S) i)) (ms_ti S (ms_nw S) i 60) N2) (fun _ N => rf_v M0 N ∧ N 341 = S ∧ N 331 32 = ((ms_nw S : Nat) : Int) ∧ N 347 = M 347 ∧ N 331 33 = (ms_bw S (ms_nw S) (i + 1)).1 ∧ N 331 34 = (ms_bw S (ms_nw S) (i + 1)).2.1 ∧ ∀ j, j < ms_nw S → N 349 j = (ms_bw S (ms_nw S) (i + 1)).2.2 j) := fun z => by
    rw [if_pos z] at bw1
    unfold f_X10_triesRow_76
    have s32 : sd_s (sd_s N2 331 33 (ms_sh (ms_ti S (ms_nw S) i))) 331 34 (ms_ti S (ms_nw S) i 60) 331 32 = ((ms_nw S : Nat) : Int) := by rw [sd_s_j (by omega), sd_s_j (by omega), g31 32 (by omega), e32]
    refine ms_t_w (rf_try_89 (M0 := sd_s (sd_s N2 331 33 (ms_sh (ms_ti S (ms_nw S) i))) 331 34 (ms_ti S (ms_nw S) i 60)) nb.1 s32 (ms_nw S) 0 4000 _ (by omega) (by omega) (fun _ _ => rfl) (fun j hj => by omega)) (fun _ N hN => ?_)
    have n31 := hN.1 331 (by omega)
    rw [bw1]
    refine ⟨rf_v_tr y2 ⟨fun a x1 x2 x3 => ?_, fun j x1 x2 => ?_⟩, ?_, ?_, ?_, ?_, ?_, fun j hj => ?_⟩
    · rw [hN.1 a (by omega), sd_s_a x1, sd_s_a x1]
    · rw [n31, sd_s_j (by omega), sd_s_j (by omega)]
    · rw [hN.1 341 (by omega), sd_s_a (by omega), sd_s_a (by omega), h2.1]
    · rw [n31, s32]
    · rw [hN.1 347 (by omega), sd_s_a (by omega), sd_s_a (by omega), g47]
    · rw [n31, sd_s_j (by omega), sd_s_at]
    · rw [n31, sd_s_at]
    · rw [hN.2 j hj, sd_s_a (by omega), sd_s_a (by omega), g48]
      exact r j hj
  have no : ¬ (i = 0 ∨ (ms_sh (ms_ti S (ms_nw S) i) < (ms_bw S (ms_nw S) i).1 ∨ (ms_sh (ms_ti S (ms_nw S) i) = (ms_bw S (ms_nw S) i).1 ∧ (ms_bw S (ms_nw S) i).2.1 < ms_ti S (ms_nw S) i 60))) → rf_v M0 N2 ∧ N2 341 = S ∧ N2 331 32 = ((ms_nw S : Nat) : Int) ∧ N2 347 = M 347 ∧ N2 331 33 = (ms_bw S (ms_nw S) (i + 1)).1 ∧ N2 331 34 = (ms_bw S (ms_nw S) (i + 1)).2.1 ∧ ∀ j, j < ms_nw S → N2 349 j = (ms_bw S (ms_nw S) (i + 1)).2.2 j := fun z => by
    rw [if_neg z] at bw1
    have b := b1 (by omega)
    rw [bw1]
    exact ⟨y2, h2.1, by rw [g31 32 (by omega)]; exact e32, g47, by rw [g31 33 (by omega)]; exact b.1, by rw [g31 34 (by omega)]; exact b.2.1, by rw [g49]; exact b.2.2⟩
  by_cases i0 : i = 0
  · rw [if_pos i0, if_neg (by omega)]
    exact yes (Or.inl i0)
  · have b := b1 (by omega)
    rw [if_neg i0, if_pos rfl, g31 33 (by omega), g31 34 (by omega), b.1, b.2.1]
    by_cases c1 : (ms_bw S (ms_nw S) i).1 < ms_sh (ms_ti S (ms_nw S) i)
    · rw [if_pos c1]
      exact ms_t_r (no (fun z => by omega))
    · rw [if_neg c1]
      by_cases c2 : ms_sh (ms_ti S (ms_nw S) i) = (ms_bw S (ms_nw S) i).1
      · rw [if_pos c2]
        by_cases c3 : (ms_bw S (ms_nw S) i).2.1 < ms_ti S (ms_nw S) i 60
        · rw [if_pos c3]
          exact yes (Or.inr (Or.inr ⟨c2, c3⟩))
        · rw [if_neg c3]
          exact ms_t_r (no (fun z => by omega))
      · rw [if_neg c2]
        exact yes (Or.inr (Or.inl (by omega)))
theorem rf_rows_90 {M0 : sd_M} {S : Nat → Int} (ok : ms_ok S) (kp : rf_kp M0 S) (kk : Int → sd_M → Option (Int × sd_M)) (w : Int) : ∀ (m i fu : Nat) (M : sd_M), (i : Int) + m = ms_fa (ms_nw S) → m < fu → rf_v M0 M → M 341 = S → M 331 32 = ((ms_nw S : Nat) : Int) → (∀ j, j < ms_nw S → M 347 j = ((ms_wt2 S j : Nat) : Int)) → (0 < i → M 331 33 = (ms_bw S (ms_nw S) i).1 ∧ M 331 34 = (ms_bw S (ms_nw S) i).2.1 ∧ ∀ j, j < ms_nw S → M 349 j = (ms_bw S (ms_nw S) i).2.2 j) → ∃ N : sd_M, rf_v M0 N ∧ N 341 = S ∧ N 331 32 = ((ms_nw S : Nat) : Int) ∧ (N 331 33 = (ms_bw S (ms_nw S) (ms_fa (ms_nw S)).toNat).1 ∧ N 331 34 = (ms_bw S (ms_nw S) (ms_fa (ms_nw S)).toNat).2.1 ∧ ∀ j, j < ms_nw S → N 349 j = (ms_bw S (ms_nw S) (ms_fa (ms_nw S)).toNat).2.2 j) ∧ f_X10_rows_90 kk fu w (i : Int) M = kk w N := by
  have nb := ms_nw_b (S := S)
  have fb := ms_fa24 nb.1
  intro m
  induction m with
  | zero =>
    intro i fu M hi hf y e e32 r b
    obtain ⟨fu, rfl⟩ : ∃ g, fu = g + 1 := ⟨fu - 1, by omega⟩
    refine ⟨M, y, e, e32, ?_, ?_⟩
    · rw [show (ms_fa (ms_nw S)).toNat = i by omega]
      exact b (by omega)
    · rw [f_X10_rows_90, e32, rf_ways (by omega), Option.bind_some]
      simp only []
      rw [if_pos (by omega)]
  | succ m ih =>
    intro i fu M hi hf y e e32 r b
    obtain ⟨fu, rfl⟩ : ∃ g, fu = g + 1 := ⟨fu - 1, by omega⟩
    have li : (i : Int) < ms_fa (ms_nw S) := by omega
    obtain ⟨x1, N1, e1, a1, a2⟩ := rf_row_7 (M0 := M) (S := S) e32 r (ms_nw S) 0 4000 (i : Int) (fun _ => false) M (by omega) (by omega) (ms_sg2_0 li) (fun _ _ => rfl)
    have u0 : ms_bt (fun _ => false) 9 = 0 := ms_bt_z (fun _ _ => rfl)
    rw [u0] at e1
    have e1' : f_X10_rowOf (i : Int) M = some (x1, N1) := e1
    have y1 : rf_v M N1 := ⟨fun a x1 x2 x3 => a2 a (by omega), fun j _ _ => by rw [a2 331 (by omega)]⟩
    obtain ⟨x2, N2, e2, c1, c2, c3, c4, c5⟩ := rf_tries (M0 := M0) (M := N1) ok li kp (rf_v_tr y y1) (by rw [a2 341 (by omega), e]) (by rw [a2 331 (by omega), e32]) (fun j hj => by
      rw [a1]
      exact ms_rw2_e (ms_nw S) 0 (i : Int) (fun _ => false) (M 348) (fun _ => 0) (fun j hj => by omega) j (by omega)) (fun h0 => by
      have := b h0
      rw [a2 331 (by omega), a2 349 (by omega)]
      exact this)
    obtain ⟨K, k1, k2, k3, k4, k5⟩ := ih (i + 1) fu N2 (by push_cast; omega) (by omega) c1 c2 c3 (fun j hj => by rw [c4, a2 347 (by omega)]; exact r j hj) (fun _ => c5)
    refine ⟨K, k1, k2, k3, k4, ?_⟩
    push_cast at k5
    rw [f_X10_rows_90, e32, rf_ways (by omega), Option.bind_some]
    simp only []
    rw [if_neg (by omega), e1', Option.bind_some]
    simp only [f_X10_rows_116]
    rw [sd_wid (by omega) (by omega)]
    by_cases i0 : i = 0
    · rw [if_pos i0] at e2
      rw [if_pos (by omega), e2, Option.bind_some]
      exact k5
    · rw [if_neg i0] at e2
      rw [if_neg (by omega), e2, Option.bind_some]
      exact k5
theorem sp_rows : sd_S1 sd_Iv f_X9_rows f_X10_rows := iv_q1 (fun M h w hw => by
  have ok := iv_ok h
  have sp := iv_sp h
  have bk := iv_bk h
  have nb := ms_nw_b (S := M 341)
  have fb := ms_fa24 nb.1
  have cb := ms_ct_b (p := ms_at (M 341) 0) 9
  by_cases c : M 341 0 = 1
  · by_cases d : 0 ≤ w ∧ w ≤ 5
    · refine ⟨if w = 0 then (ms_bw (M 341) (ms_nw (M 341)) (ms_fa (ms_nw (M 341))).toNat).1 else if w = 1 then (ms_bw (M 341) (ms_nw (M 341)) (ms_fa (ms_nw (M 341))).toNat).2.1 else if (ms_nw (M 341) : Int) ≤ w - 2 then -1 else (ms_bw (M 341) (ms_nw (M 341)) (ms_fa (ms_nw (M 341))).toNat).2.2 (w - 2).toNat, ?_, fun N hN q => ?_⟩
      · obtain ⟨K, k1, k2, k3⟩ := cl_rows_85 h w (ms_fa (ms_nw (M 341))).toNat 0 4000 M (by omega) (by omega) cl_qf_rf (fun h0 => by omega)
        have k2' : f_X9_rows_76 w ((ms_nw (M 341) : Nat) : Int) (ms_fa (ms_nw (M 341))) M = _ := k2
        have on := ms_on_b (S := M 341) (w := 0)
        have pp : ms_pp (ms_on (M 341) 0) = ms_ct (ms_at (M 341) 0) 9 := ms_pp_c
        have sz : (if ms_ct (ms_at (M 341) 0) 9 < 4 then ms_ct (ms_at (M 341) 0) 9 else 4) = ((ms_nw (M 341) : Nat) : Int) := ms_c4_9
        unfold f_X9_rows
        rw [if_neg (by omega), if_neg (by omega), if_pos (by omega), (iv_tn h).1.1, cl_bits ok bk.1, Option.bind_some]
        simp only []
        rw [cl_bitCount on, Option.bind_some, pp]
        simp only []
        rw [sz, cl_rows_59 (by omega), k2', f_X9_rows_194]
        by_cases w0 : w = 0
        · rw [if_pos w0, if_pos w0]
          exact ms_t_r ⟨rfl, k3⟩
        · rw [if_neg w0, if_neg w0]
          by_cases w1 : w = 1
          · rw [if_pos w1, if_pos w1]
            exact ms_t_r ⟨rfl, k3⟩
          · rw [if_neg w1, if_neg w1, sd_wid (by omega) (by omega)]
            by_cases w2 : ((ms_nw (M 341) : Nat) : Int) ≤ w - 2
            · rw [if_pos w2, if_pos w2]
              exact ms_t_r ⟨rfl, k3⟩
            · rw [if_neg w2, if_neg w2, if_pos (by omega)]
              exact ms_t_r ⟨k1 _ (by omega), k3⟩
      · have e : N 341 = M 341 := cl_qf_hi q (by omega)
        unfold f_X10_rows
        rw [rf_sl1 (by rw [e]; exact c), Option.bind_some]
        simp only []
        rw [if_neg (by omega), rf_in1 d, Option.bind_some]
        simp only []
        rw [if_neg (by omega)]
        have l := ms_lines ok
        have c0 : ms_c4 (M 341) 0 = 0 := rfl
        obtain ⟨K1, a1, a2, a3, a4, a5⟩ := rf_rows_29 (M0 := N) ok f_X10_rows_84 w (M 341 2).toNat 0 4000 (sd_s N 331 32 0) (by omega) (by omega) (by rw [sd_s_at, c0]) (fun j hj => by rw [c0] at hj; omega) (by rw [sd_s_a (by omega), e]) (rf_v_s (by omega))
        have a5' : f_X10_rows_29 f_X10_rows_84 4000 w 0 (sd_s N 331 32 0) = _ := a5
        rw [a5', f_X10_rows_84]
        refine ms_t_b (rf_keeps (M := K1)) (fun _ K hK => ?_)
        rw [a3] at hK
        simp only []
        have eK : K 341 = M 341 := by rw [hK.1 341 (by omega), a3]
        obtain ⟨L, l1, l2, l3, l4, l5⟩ := rf_rows_90 (M0 := K) ok hK.2 f_X10_rows_125 w (ms_fa (ms_nw (M 341))).toNat 0 4000 K (by omega) (by omega) rf_v_rf eK (by rw [hK.1 331 (by omega)]; exact a1) (fun j hj => by rw [hK.1 347 (by omega)]; exact a2 j hj) (fun h0 => by omega)
        have l5' : f_X10_rows_90 f_X10_rows_125 4000 w 0 K = _ := l5
        have fin : rf_q N L := rf_q_tr (rf_q_v a4 (by rw [a3, e])) (rf_q_tr (rf_q_kp hK.1) (rf_q_v l1 (by rw [l2, eK])))
        rw [l5', f_X10_rows_125, l3, l4.1, l4.2.1]
        by_cases w0 : w = 0
        · rw [if_neg (by omega), if_pos w0, if_pos w0]
          exact ms_t_r ⟨rfl, fin⟩
        · rw [if_neg (show ¬ w = 0 from w0), if_neg (show ¬ w = 0 from w0)]
          by_cases w1 : w = 1
          · rw [if_neg (by omega), if_pos w1]
            exact ms_t_r ⟨rfl, fin⟩
          · rw [if_neg (show ¬ w = 1 from w1), if_pos (by omega), sd_wid (by omega) (by omega)]
            by_cases w2 : ((ms_nw (M 341) : Nat) : Int) ≤ w - 2
            · rw [if_pos w2, if_pos w2]
              exact ms_t_r ⟨rfl, fin⟩
            · rw [if_neg w2, if_neg w2, if_pos (by omega)]
              exact ms_t_r ⟨l4.2.2 _ (by omega), fin⟩
    · refine ⟨-2, ?_, fun N hN q => ?_⟩
      · unfold f_X9_rows
        rw [if_neg (by omega)]
        by_cases g : w < 0
        · rw [if_pos g]
          exact ms_t_r ⟨rfl, cl_qf_rf⟩
        · rw [if_neg g, if_neg (by omega)]
          exact ms_t_r ⟨rfl, cl_qf_rf⟩
      · unfold f_X10_rows
        rw [rf_sl1 (by rw [cl_qf_hi q (show 331 ≤ 341 by omega)]; exact c), Option.bind_some]
        simp only []
        rw [if_neg (by omega), rf_in0 d, Option.bind_some]
        exact ms_t_r ⟨rfl, rf_q_rf⟩
  · refine ⟨-2, ?_, fun N hN q => ?_⟩
    · unfold f_X9_rows
      rw [if_pos (by omega)]
      exact ms_t_r ⟨rfl, cl_qf_rf⟩
    · unfold f_X10_rows
      rw [rf_sl0 (by rw [cl_qf_hi q (show 331 ≤ 341 by omega)]; exact c), Option.bind_some]
      exact ms_t_r ⟨rfl, rf_q_rf⟩)
