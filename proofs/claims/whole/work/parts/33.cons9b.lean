/-! SlipDesk(): the whole constructor; then both objects make the cells of sd_rp sd_M0 -/
theorem sd_rep_0 (blk : Nat → List sd_E) (b st : Nat) : sd_rep blk b st 0 = [] := rfl
set_option maxRecDepth 4000 in
theorem sd_c9_ok {E : List sd_E} {b d : Nat} (hb : E.length = b) (hd : 4 ≤ d) : sd_Cal sd_X d 72 [.inr (.inr (some b))] (E ++ [.inl (9, sd_df 9)]) (none, E ++ sd_k9 b, 330, 9887) := by
  obtain ⟨d, rfl⟩ : ∃ d2, d = d2 + 1 := ⟨d - 1, by omega⟩
  have hd : 3 ≤ d := by omega
  refine sd_d_of sd_i_X9_init (Nat.le_of_ble_eq_true rfl) ?_
  show sd_D d sd_q_X9_init 0 [(0, .inr (.inr (some b)))] [] (E ++ [.inl (9, [.inr (.inr none), .inr (.inr none), .inr (.inr none), .inr (.inr none), .inl 0, .inr (.inr none), .inr (.inr none), .inr (.inr none), .inr (.inr none), .inl 0, .inl 0, .inr (.inr none), .inr (.inr none), .inr (.inr none), .inr (.inr none), .inr (.inr none), .inr (.inr none), .inr (.inr none)])]) 0 0 _
  refine sd_c9_A hb (by omega) ?_
  have l1 := fun H => sd_c9_l1 (R := (none, E ++ sd_k9 b, 330, 9887)) (T := sd_k7 (b + 1) ++ sd_k6 (b + 6) ++ sd_k5 (b + 14)) (k := 15) (n := 1692) hb hd (by simp [sd_k7_len, sd_k6_len, sd_k5_len, sd_k2_len, sd_k1_len, sd_k0_len, sd_rep_len sd_k4_len, sd_rep_len sd_k2_len, sd_rep_len sd_k0_len]) H 6 0 rfl
  rw [sd_rf_0, sd_rep_0] at l1
  refine l1 ?_
  refine sd_c9_B (T := (sd_k7 (b + 1) ++ sd_k6 (b + 6) ++ sd_k5 (b + 14) ++ .inr (8, 6, sd_rf (b + 16) 7 6) :: sd_rep sd_k4 (b + 16) 7 6)) hb hd (by simp [sd_k7_len, sd_k6_len, sd_k5_len, sd_k2_len, sd_k1_len, sd_k0_len, sd_rep_len sd_k4_len, sd_rep_len sd_k2_len, sd_rep_len sd_k0_len]) ?_
  have l2 := fun H => sd_c9_l2 (R := (none, E ++ sd_k9 b, 330, 9887)) (T := (sd_k7 (b + 1) ++ sd_k6 (b + 6) ++ sd_k5 (b + 14) ++ .inr (8, 6, sd_rf (b + 16) 7 6) :: sd_rep sd_k4 (b + 16) 7 6) ++ sd_k2 (b + 58)) (k := 77) (n := 7320) hb hd (by simp [sd_k7_len, sd_k6_len, sd_k5_len, sd_k2_len, sd_k1_len, sd_k0_len, sd_rep_len sd_k4_len, sd_rep_len sd_k2_len, sd_rep_len sd_k0_len]) H 4 0 rfl
  rw [sd_rf_0, sd_rep_0] at l2
  refine l2 ?_
  refine sd_c9_C (T := ((sd_k7 (b + 1) ++ sd_k6 (b + 6) ++ sd_k5 (b + 14) ++ .inr (8, 6, sd_rf (b + 16) 7 6) :: sd_rep sd_k4 (b + 16) 7 6) ++ sd_k2 (b + 58) ++ .inr (6, 4, sd_rf (b + 78) 19 4) :: sd_rep sd_k2 (b + 78) 19 4)) hb hd (by simp [sd_k7_len, sd_k6_len, sd_k5_len, sd_k2_len, sd_k1_len, sd_k0_len, sd_rep_len sd_k4_len, sd_rep_len sd_k2_len, sd_rep_len sd_k0_len]) ?_
  have l3 := fun H => sd_c9_l3 (R := (none, E ++ sd_k9 b, 330, 9887)) (T := ((sd_k7 (b + 1) ++ sd_k6 (b + 6) ++ sd_k5 (b + 14) ++ .inr (8, 6, sd_rf (b + 16) 7 6) :: sd_rep sd_k4 (b + 16) 7 6) ++ sd_k2 (b + 58) ++ .inr (6, 4, sd_rf (b + 78) 19 4) :: sd_rep sd_k2 (b + 78) 19 4) ++ [sd_zz 4]) (k := 155) (n := 8048) hb hd (by simp [sd_k7_len, sd_k6_len, sd_k5_len, sd_k2_len, sd_k1_len, sd_k0_len, sd_rep_len sd_k4_len, sd_rep_len sd_k2_len, sd_rep_len sd_k0_len]) H 20 0 rfl
  rw [sd_rf_0, sd_rep_0] at l3
  refine l3 ?_
  exact sd_c9_D (T := sd_t9 b) hb hd (sd_t9_len b)
