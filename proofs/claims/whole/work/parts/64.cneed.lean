/-! the class: needs, settling -/
theorem ms_i1 {c : Prop} [Decidable c] (h : c) : (if c then (1 : Int) else 0) = 1 := if_pos h
theorem ms_i0 {c : Prop} [Decidable c] (h : ¬ c) : (if c then (1 : Int) else 0) = 0 := if_neg h
/-- what was told, as far as days need it -/
def cl_tn (M : sd_M) (S : Nat → Int) : Prop := (M 59 2 = S 2 ∧ M 59 6 = S 3) ∧ (∀ f : Nat, (f : Int) < S 2 → M 62 f = ms_nf S f (S 3).toNat) ∧ (∀ k : Nat, (k : Int) < S 3 → M 63 k = S (22 + 3 * k) ∧ M 64 k = S (23 + 3 * k) ∧ M 65 k = S (24 + 3 * k))
theorem ms_nf_c {S T : Nat → Int} {f : Int} : ∀ n : Nat, (∀ k, k < n → T (22 + 3 * k) = S (22 + 3 * k)) → ms_nf T f n = ms_nf S f n
  | 0, _ => rfl
  | n + 1, h => by rw [ms_nf, ms_nf, ms_nf_c n (fun k hk => h k (by omega)), h n (by omega)]
theorem cl_tn_c {M N : sd_M} {S T : Nat → Int} (h : cl_tn M S) (h3 : S 3 ≤ 12) (hM : ∀ a, 59 ≤ a → a < 66 → N a = M a) (hS : ∀ i, (i = 2 ∨ i = 3 ∨ (22 ≤ i ∧ i < 58)) → T i = S i) : cl_tn N T := by
  obtain ⟨⟨a1, a2⟩, a3, a4⟩ := h
  have e2 := hS 2 (by omega)
  have e3 := hS 3 (by omega)
  refine ⟨⟨by rw [hM 59 (by omega) (by omega), e2]; exact a1, by rw [hM 59 (by omega) (by omega), e3]; exact a2⟩, fun f hf => ?_, fun k hk => ?_⟩
  · rw [hM 62 (by omega) (by omega), a3 f (by omega), e3]
    exact (ms_nf_c _ (fun k hk => hS _ (by omega))).symm
  · rw [hM 63 (by omega) (by omega), hM 64 (by omega) (by omega), hM 65 (by omega) (by omega), hS (22 + 3 * k) (by omega), hS (23 + 3 * k) (by omega), hS (24 + 3 * k) (by omega)]
    exact a4 k (by omega)
theorem cl_lack {M : sd_M} {b : Nat} {S : Nat → Int} (h : ms_ok S) (h0 : M b 0 = S 59) (h2 : M b 2 = ms_pl S) : f_X0_lacking b M = some (ms_sh S, M) := by
  have p := ms_pl_le h
  have o := h.2.2.1
  unfold f_X0_lacking ms_sh
  rw [h0, h2, sd_wid (by omega) (by omega)]
  by_cases c : S 59 ≤ ms_pl S
  · rw [if_pos c, if_neg (by omega)]
  · rw [if_neg c, if_pos (by omega)]
theorem cl_holds {M : sd_M} {b : Nat} {S : Nat → Int} (h : ms_ok S) (hb : cl_bk M b S) (ht : cl_tn M S) {k : Nat} (hk : (k : Int) < S 3) : f_X0_holds b (k : Int) M = some (if ms_hd S k = true then 1 else 0, M) := by
  have l := ms_lines h
  have p := ms_p12 h hk
  obtain ⟨t1, t2, t3⟩ := ht.2.2 k hk
  have k12 : (0 ≤ (k : Int) ∧ (k : Int) < 12) = True := eq_true (by omega)
  have on := cl_isOn h hb.1 (S (24 + 3 * k))
  have la := cl_lack h hb.1.1.1 hb.2.1
  have dd : ∀ (c : Prop) [Decidable c], (if decide c = true then (1 : Int) else 0) = if c then 1 else 0 := fun c _ => by by_cases x : c <;> simp [x]
  obtain ⟨⟨⟨b0, b1, b3, b4⟩, bf, bw, bl, bo⟩, bp, bsg⟩ := hb
  unfold f_X0_holds ms_hd
  simp only [k12, if_true, Int.toNat_natCast, t1, t2, t3, la, on, Option.bind_some]
  by_cases c0 : S (23 + 3 * k) = 0
  · rw [if_pos c0, if_pos c0, bp, dd]
    by_cases c : ms_pl S < S (24 + 3 * k)
    · rw [if_pos c, if_neg (by omega)]
    · rw [if_neg c, if_pos (by omega)]
  rw [if_neg c0, if_neg c0]
  by_cases c1 : S (23 + 3 * k) = 1
  · rw [if_pos c1, if_pos c1, dd]
    by_cases c : (0 ≤ S (24 + 3 * k) ∧ S (24 + 3 * k) < S 2) ∧ S (71 + (S (24 + 3 * k)).toNat) = 1
    · rw [if_pos c, if_pos (by omega)]
    · rw [if_neg c, if_pos (by omega)]
  rw [if_neg c1, if_neg c1]
  by_cases c2 : S (23 + 3 * k) = 2
  · rw [if_pos c2, if_pos c2, if_pos (by omega), bsg _ (by omega), Int.toNat_of_nonneg (by omega), dd]
    by_cases c : ms_sg S (S (22 + 3 * k)) < S (24 + 3 * k)
    · rw [if_pos c, if_neg (by omega)]
    · rw [if_neg c, if_pos (by omega)]
  rw [if_neg c2, if_neg c2]
  by_cases c3 : S (23 + 3 * k) = 3
  · rw [if_pos c3, if_pos c3, b3, dd]
    by_cases c : S (24 + 3 * k) < S 60
    · rw [if_pos c, if_neg (by omega)]
    · rw [if_neg c, if_pos (by omega)]
  rw [if_neg c3, if_neg c3]
  by_cases c4 : S (23 + 3 * k) = 4
  · rw [if_pos c4, if_pos c4, dd]
    by_cases c : S (24 + 3 * k) < ms_sh S
    · rw [if_pos c, if_neg (by omega)]
    · rw [if_neg c, if_pos (by omega)]
  rw [if_neg c4, if_neg c4, b1, dd]
  by_cases c : S (24 + 3 * k) < S 58
  · rw [if_pos c, if_neg (by omega)]
  · rw [if_neg c, if_pos (by omega)]
def cl_iq (S : Nat → Int) (k f : Nat) : Bool := decide ((f : Int) < S 2 ∧ S (71 + f) = 1) && !(ms_hk S (f : Int) k)
theorem ms_bt_z {p : Nat → Bool} (h : ∀ i, i < 9 → p i = false) : ms_bt p 9 = 0 := by
  have := ms_bt_x (p := p) (n := 0) (fun i _ hi => h i hi) 9 (by omega)
  rw [Nat.zero_add] at this
  rw [this]
  rfl
theorem cl_fin_4 {M : sd_M} {b : Nat} {S : Nat → Int} (h : ms_ok S) (hb : cl_bk M b S) (ht : cl_tn M S) (kk : Int → sd_M → Option (Int × sd_M)) : ∀ (m k fu : Nat), (k : Int) + m = S 3 → m < fu → f_X0_firstInNeed_4 kk b fu (ms_bt (cl_iq S k) 9) (k : Int) M = kk (ms_bt (cl_iq S (S 3).toNat) 9) M := by
  have l := ms_lines h
  intro m
  induction m with
  | zero =>
    intro k fu hk hf
    obtain ⟨fu, rfl⟩ : ∃ g, fu = g + 1 := ⟨fu - 1, by omega⟩
    rw [f_X0_firstInNeed_4, ht.1.2, if_pos (by omega), show (S 3).toNat = k by omega]
  | succ m ih =>
    intro k fu hk hf
    obtain ⟨fu, rfl⟩ : ∃ g, fu = g + 1 := ⟨fu - 1, by omega⟩
    have p := ms_p12 h (k := k) (by omega)
    obtain ⟨t1, t2, t3⟩ := ht.2.2 k (by omega)
    have up := ih (k + 1) fu (by omega) (by omega)
    push_cast at up
    have same : (¬ (S (71 + (S (22 + 3 * k)).toNat) = 1 ∧ ms_hd S k = false)) → ms_bt (cl_iq S (k + 1)) 9 = ms_bt (cl_iq S k) 9 := fun hh => ms_bt_c 9 (fun f hf => by
      unfold cl_iq
      rw [ms_hk]
      by_cases e : S (22 + 3 * k) = (f : Int)
      · rw [e, Int.toNat_natCast] at hh
        cases hd : ms_hd S k
        · have : S (71 + f) ≠ 1 := fun x => hh ⟨x, hd⟩
          simp [this]
        · simp
      · simp [e])
    rw [f_X0_firstInNeed_4, ht.1.2, if_neg (by omega), if_pos (by omega), Int.toNat_natCast, t1, cl_isOn h hb.1, Option.bind_some]
    simp only []
    by_cases c : S (71 + (S (22 + 3 * k)).toNat) = 1
    · rw [ms_i1 ⟨by omega, c⟩, if_neg (by omega), cl_holds h hb ht (by omega), Option.bind_some]
      simp only []
      cases hd : ms_hd S k
      · rw [ms_i0 (by simp), if_pos rfl, if_pos (by omega), f_X0_firstInNeed_45, sd_wid (by omega) (by omega), t1]
        have z : sd_or (ms_bt (cl_iq S k) 9) (sd_shl 1 (S (22 + 3 * k))) = ms_bt (cl_iq S (k + 1)) 9 := by
          have e := ms_bt_o (p := cl_iq S k) (i := (S (22 + 3 * k)).toNat) (by omega)
          rw [Int.toNat_of_nonneg (by omega)] at e
          rw [e]
          refine ms_bt_c 9 (fun f hf => ?_)
          unfold cl_iq
          rw [ms_hk, hd]
          by_cases ef : (S (22 + 3 * k)).toNat = f
          · have e2 : S (22 + 3 * k) = (f : Int) := by omega
            have e3 : (f : Int) < S 2 := by omega
            rw [ef] at c
            simp [ef, e2, e3, c]
          · have e2 : ¬ S (22 + 3 * k) = (f : Int) := by omega
            simp [ef, e2]
        rw [z]
        exact up
      · rw [ms_i1 rfl, if_neg (by omega), f_X0_firstInNeed_45, sd_wid (by omega) (by omega), ← same (by simp [hd])]
        exact up
    · rw [ms_i0 (fun e => c e.2), if_pos rfl, f_X0_firstInNeed_45, sd_wid (by omega) (by omega), ← same (fun e => c e.1)]
      exact up
theorem cl_fin_53 {M : sd_M} {b : Nat} {S : Nat → Int} (h : ms_ok S) (hb : cl_bk M b S) : ∀ (m k fu : Nat), (k : Int) + m = S 60 → m < fu → f_X0_firstInNeed_53 (f_X0_firstInNeed_75 b) b fu (ms_bt (cl_iq S (S 3).toNat) 9) (k : Int) M = some (if (ms_fs S m k : Int) < S 60 then S (89 + ms_fs S m k) else -1, M) := by
  have l := ms_lines h
  obtain ⟨⟨⟨b0, b1, b3, b4⟩, bf, bw, bl, bo⟩, bp, bsg⟩ := hb
  intro m
  induction m with
  | zero =>
    intro k fu hk hf
    obtain ⟨fu, rfl⟩ : ∃ g, fu = g + 1 := ⟨fu - 1, by omega⟩
    rw [f_X0_firstInNeed_53, b3, if_pos (by omega), ms_fs, if_neg (by omega)]
  | succ m ih =>
    intro k fu hk hf
    obtain ⟨fu, rfl⟩ : ∃ g, fu = g + 1 := ⟨fu - 1, by omega⟩
    have a := ms_line h (k := k) (by omega)
    have up := ih (k + 1) fu (by omega) (by omega)
    push_cast at up
    rw [f_X0_firstInNeed_53, b3, if_neg (by omega), if_pos (by omega), Int.toNat_natCast, bl k (by omega), ms_bti (by omega), sd_wid (by omega) (by omega), ms_fs]
    have e : cl_iq S (S 3).toNat (S (89 + k)).toNat = !(ms_ha S (S (89 + k))) := by
      unfold cl_iq ms_ha
      have e3 : ((S (89 + k)).toNat : Int) < S 2 := by omega
      rw [Int.toNat_of_nonneg a.1.1]
      simp [a.1.2, a.2.1]
    rw [e]
    cases hh : ms_ha S (S (89 + k))
    · simp only [Bool.not_false, if_true, Bool.false_eq_true, if_false]
      rw [f_X0_firstInNeed_75, if_pos (show 0 ≤ (k : Int) ∧ (k : Int) < 9 by omega), if_pos (show (k : Int) < S 60 by omega), Int.toNat_natCast, bl k (by omega)]
    · simp only [Bool.not_true, Bool.false_eq_true, if_false, if_true]
      first
        | exact up
        | (rw [if_neg (by omega)]; exact up)
theorem cl_fin {M : sd_M} {b : Nat} {S : Nat → Int} (h : ms_ok S) (hb : cl_bk M b S) (ht : cl_tn M S) : f_X0_firstInNeed b M = some (if (ms_f0 S : Int) < S 60 then S (89 + ms_f0 S) else -1, M) := by
  have l := ms_lines h
  have t := h.1.2.2.1
  unfold f_X0_firstInNeed
  have z : ms_bt (cl_iq S 0) 9 = 0 := ms_bt_z (fun i _ => by simp [cl_iq, ms_hk])
  have e := cl_fin_4 h hb ht (f_X0_firstInNeed_51 b) (S 3).toNat 0 4000 (by omega) (by omega)
  rw [z] at e
  have e2 : f_X0_firstInNeed_4 (f_X0_firstInNeed_51 b) b 4000 0 0 M = _ := e
  rw [e2, f_X0_firstInNeed_51]
  exact cl_fin_53 h hb (S 60).toNat 0 4000 (by omega) (by omega)
theorem ms_go_tn {M N : sd_M} {S : Nat → Int} (h : ms_ok S) {p : Nat} (hp : (p : Int) < S 60) (ht : cl_tn M S) (hM : ∀ a, 59 ≤ a → a < 66 → N a = M a) {f : Int} : cl_tn N (ms_go S p f) := cl_tn_c ht h.1.2.2.1.2 hM (fun i hi => ms_go_lo (by omega) (by omega))
theorem cl_settle_7 {b : Nat} (h66 : 66 ≤ b) (v2 : Int) : ∀ (m i fu : Nat) (M : sd_M) (S : Nat → Int), i + m = 9 → m < fu → ms_ok S → cl_bk M b S → cl_tn M S → ms_T (f_X0_settle_7 (f_X0_settle_26 b) (f_X0_settle_41 b) b fu v2 (i : Int) M) (fun r N => r = sd_w (ms_se m S 61 - v2) ∧ cl_bk N b (ms_se m S) ∧ cl_fr M N b) := by
  intro m
  induction m with
  | zero =>
    intro i fu M S hi hf h hb ht
    obtain ⟨fu, rfl⟩ : ∃ g, fu = g + 1 := ⟨fu - 1, by omega⟩
    rw [f_X0_settle_7, if_pos (by omega), f_X0_settle_41]
    exact ms_t_r ⟨by rw [hb.1.1.2.2.2, ms_se], hb, cl_fr_rf⟩
  | succ m ih =>
    intro i fu M S hi hf h hb ht
    obtain ⟨fu, rfl⟩ : ∃ g, fu = g + 1 := ⟨fu - 1, by omega⟩
    rw [f_X0_settle_7, if_neg (by omega), cl_fin h hb ht, Option.bind_some, ms_se]
    simp only []
    by_cases c : (ms_f0 S : Int) < S 60
    · have a := ms_line h c
      rw [if_pos c, if_neg (by omega)]
      refine ms_t_b (cl_leave h hb c) (fun r N hN => ?_)
      simp only []
      rw [sd_wid (by omega) (by omega)]
      have u := ih (i + 1) fu N (ms_go S (ms_f0 S) (S (89 + ms_f0 S))) (by omega) (by omega) (ms_go_ok h c) hN.1 (ms_go_tn h c ht (fun x h1 h2 => hN.2 x (by omega)))
      push_cast at u
      rw [if_pos c]
      exact ms_t_w u (fun r K hK => ⟨hK.1, hK.2.1, cl_fr_tr hN.2 hK.2.2⟩)
    · rw [if_neg c, if_pos rfl, f_X0_settle_26, f_X0_settle_41, if_neg c]
      exact ms_t_r ⟨by rw [hb.1.1.2.2.2], hb, cl_fr_rf⟩
theorem cl_settle {M : sd_M} {b : Nat} {S : Nat → Int} (h66 : 66 ≤ b) (h : ms_ok S) (hb : cl_bk M b S) (ht : cl_tn M S) : ms_T (f_X0_settle b M) (fun r N => r = ms_st S 61 - S 61 ∧ cl_bk N b (ms_st S) ∧ cl_fr M N b) := by
  unfold f_X0_settle
  refine ms_t_w (cl_settle_7 h66 (M b 4) 9 0 4000 M S (by omega) (by omega) h hb ht) (fun r N hN => ⟨?_, hN.2⟩)
  have l := ms_lines h
  have l2 := ms_lines (ms_st_ok h)
  rw [hN.1, hb.1.1.2.2.2]
  exact sd_wid (by unfold ms_st at l2; omega) (by unfold ms_st at l2; omega)
