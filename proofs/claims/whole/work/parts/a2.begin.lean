/-! the begin; all pairs -/
theorem iv_z {a k : Nat} (h1 : ¬ (a = 58 ∨ a = 78 ∨ a = 97 ∨ a = 116 ∨ a = 135)) (h2 : a ≠ 331) : sd_M0 a k = 0 := by
  unfold sd_M0
  rw [if_neg h1, if_neg h2]
theorem iv_zr {k : Nat} (h : k ≠ 21) : sd_M0 331 k = 0 := by
  unfold sd_M0
  rw [if_neg (by omega), if_pos rfl, if_neg h]
theorem iv_z3 : sd_M0 331 21 = -1 ∧ sd_M0 58 3 = -1 ∧ sd_M0 58 4 = 0 := ⟨rfl, rfl, rfl⟩
theorem ms_sl_0 {S : Nat → Int} (z : ∀ i, S i = 0) : ms_sl S := by
  have no : ∀ {k : Nat} {i : Nat}, ¬ (k : Int) < S i := fun {k i} w => by
    rw [z i] at w
    omega
  have z0 : ∀ i, 0 ≤ S i := fun i => by rw [z i]; exact Int.le_refl _
  have zn : ∀ i, S i ≤ 0 := fun i => by rw [z i]; exact Int.le_refl _
  have b : ∀ i (m : Int), 0 ≤ m → 0 ≤ S i ∧ S i ≤ m := fun i m h => ⟨z0 i, Int.le_trans (zn i) h⟩
  have n1 : ∀ {i : Nat} {P : Prop}, S i = 1 → P := fun {i P} w => by
    rw [z i] at w
    exact absurd w (by decide)
  refine ⟨⟨⟨Or.inl (z 0), b 2 9 (by decide), b 3 12 (by decide), fun f hf => absurd hf no, fun k hk => absurd hk no, fun _ => z 2, b 1 999 (by decide), fun w => n1 w⟩, ⟨z0 60, z0 61, ?_⟩, ⟨b 59 999 (by decide), fun w => n1 w⟩, fun f hf => absurd hf no, fun f _ _ => z _, fun k hk => absurd hk no, fun j k hj _ _ => absurd hj no, fun f hf _ => absurd hf no⟩, b 58 999 (by decide), b 127 10 (by decide), fun k hk => absurd hk no⟩
  rw [z 60, z 61, z 2]
  rfl
theorem sd_Iv_0 : sd_Iv sd_M0 := by
  have no : ∀ {k : Nat} {z : Int}, z = 0 → ¬ (k : Int) < z := fun {k z} e w => by
    rw [e] at w
    omega
  have S0 : ∀ i, sd_M0 341 i = 0 := fun i => iv_z (by omega) (by omega)
  have r1 : sd_M0 331 1 = 0 := iv_zr (by omega)
  have r2 : sd_M0 331 2 = 0 := iv_zr (by omega)
  have r22 : sd_M0 331 22 = 0 := iv_zr (by omega)
  have r27 : sd_M0 331 27 = 0 := iv_zr (by omega)
  have z0 : ∀ k, sd_M0 0 k = 0 := fun k => iv_z (by omega) (by omega)
  refine ⟨⟨?_, ?_, fun j hj => absurd hj (no r1)⟩, ⟨⟨?_, ?_, ?_⟩, fun r hr => absurd hr (no r2)⟩, ⟨⟨?_, ?_, ?_, ?_⟩, fun i hi => absurd hi (no r27)⟩, fun k hk => ⟨⟨?_, ?_⟩, fun w => ?_⟩, ?_⟩
  · rw [r1]
    exact iv_z (by omega) (by omega)
  · rw [r1]
    omega
  · rw [z0, r2]
  · rw [r2]
    omega
  · rw [r2]
    omega
  · rw [z0, r27]
  · rw [r27]
    omega
  · rw [z0]
    omega
  · rw [z0]
    omega
  · rw [iv_z (a := 154) (by omega) (by omega), iv_z (a := 356) (by omega) (by omega)]
  · exact Or.inl (iv_z (by omega) (by omega))
  · rw [iv_z (a := 356) (by omega) (by omega)] at w
    exact absurd w (by decide)
  · refine ⟨ms_sl_0 S0, ⟨⟨⟨?_, ?_, ?_, ?_⟩, fun f hf => absurd hf (no (S0 2)), fun k hk => absurd hk (no (S0 3))⟩, ⟨⟨⟨?_, ?_, ?_, ?_⟩, fun f hf => absurd hf (no (S0 2)), fun f _ => ?_, fun k hk => absurd hk (no (S0 60)), fun k hk => absurd hk (no (S0 61))⟩, ?_, fun f _ => ?_⟩, ⟨?_, fun k hk => absurd hk (no (S0 127))⟩, ?_, ?_⟩, ⟨?_, ?_⟩, ?_, ?_⟩
    · rw [S0, iv_z (by omega) (by omega)]
    · rw [S0, iv_z (by omega) (by omega)]
    · rw [S0, iv_z (by omega) (by omega)]
    · rw [S0, iv_z (by omega) (by omega)]
    · rw [S0, iv_z (by omega) (by omega)]
    · rw [S0, iv_z (by omega) (by omega)]
    · rw [S0, iv_z (by omega) (by omega)]
    · rw [S0, iv_z (by omega) (by omega)]
    · rw [S0, iv_z (by omega) (by omega)]
    · unfold ms_pl
      rw [S0, iv_z (by omega) (by omega)]
      rfl
    · unfold ms_sg
      rw [iv_z (by omega) (by omega), if_neg (fun w => absurd w.1.2 (no (S0 2)))]
    · rw [S0, iv_z (by omega) (by omega)]
    · rw [iv_z3.1, iv_z3.2.1]
    · rw [r22, iv_z3.2.2]
    · rw [iv_z3.1]
      omega
    · rw [iv_z3.1, r2]
      omega
    · rw [r22]
      omega
    · rw [r22]
      omega
theorem sd_all_pairs : sd_Sim sd_Iv := ⟨sp_feed, sp_end, sp_slip, sp_rule, sp_force, sp_offer, sp_need, sp_line, sp_out, sp_day, sp_cancel, sp_order, sp_write, sp_claim, sp_undo, sp_would, sp_least, sp_worst, sp_firm, sp_half, sp_agree, sp_rows, sp_ahead, sp_full, sp_taken, sp_sizes, sp_standing, sp_rests, sp_pence, sp_note, sp_ruled, sp_look, sp_seed, sp_seasons, sp_count, sp_image, sp_back⟩
/-- from the entry, for every script of at most 3072 ints, the law comes to its end with true -/
theorem whole_start {p : Program} {e : Env} {s : State} {m : MethodId} {below : List Frame} {meth : Method} {c : Code} (l : Launch) (hflags : l.flags = flags0) {b L : Nat} {xs : Nat → Int32} (hL : L ≤ 3072) (C0 : lw_At p s m meth c b L xs) : W p l e room_1 s m #[Value.ref b] below meth c s.heap [] 0 0 (lw_Z below #[Value.ref b] s) (entryFrame m ([Value.ref b] : List Value).toArray 4) := law_start_open hL C0 (fun _ _ _ _ _ h => h.elim) sd_Iv_0 sd_all_pairs
