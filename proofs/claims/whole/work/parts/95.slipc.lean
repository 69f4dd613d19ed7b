/-! SLIPS: what a clause is, and how the class reads one -/
/-- read so far: a fault, or the place behind and the row -/
abbrev sl_R : Type := Int ⊕ (Nat × (Nat → Int))
def sl_p (o : sl_R) (no : Int → Prop) (ok : Nat → (Nat → Int) → Prop) : Prop := match o with
  | .inl f => no f
  | .inr x => ok x.1 x.2
def sl_o (B : Nat → Int) (n : Nat) (R : Nat → Int) (p : Nat) : sl_R := if tx_ok B n p 1 999 then (if tx_ok B n (tx_nx B n p) 0 1 then .inr (tx_nx B n (tx_nx B n p), ms_u (ms_u (ms_u R (4 + (R 2).toNat) (tx_vl B n p)) (13 + (R 2).toNat) (tx_vl B n (tx_nx B n p))) 2 (R 2 + 1)) else .inl (tx_nf B n (tx_nx B n p))) else .inl (tx_nf B n p)
def sl_n (B : Nat → Int) (n : Nat) (R : Nat → Int) (p : Nat) : sl_R := if tx_ok B n p 0 (R 2 - 1) then (if tx_ok B n (tx_nx B n p) 0 5 then (if tx_ok B n (tx_nx B n (tx_nx B n p)) 0 999 then .inr (tx_nx B n (tx_nx B n (tx_nx B n p)), ms_u (ms_u (ms_u (ms_u R (22 + 3 * (R 3).toNat) (tx_vl B n p)) (23 + 3 * (R 3).toNat) (tx_vl B n (tx_nx B n p))) (24 + 3 * (R 3).toNat) (tx_vl B n (tx_nx B n (tx_nx B n p)))) 3 (R 3 + 1)) else .inl (tx_nf B n (tx_nx B n (tx_nx B n p)))) else .inl (tx_nf B n (tx_nx B n p))) else .inl (tx_nf B n p)
def sl_s (B : Nat → Int) (n : Nat) (R : Nat → Int) (p : Nat) : sl_R := if tx_ok B n p 1 999 then .inr (tx_nx B n p, ms_u (ms_u R 1 (tx_vl B n p)) 0 1) else .inl (tx_nf B n p)
def sl_f (p w : Nat) : Int := ((1 + 8 * p + w : Nat) : Int)
def sl_c (B : Nat → Int) (n c : Nat) (R : Nat → Int) (p : Nat) : sl_R :=
  if tx_kd B n p = 611 ∨ tx_kd B n p = 600 ∨ tx_kd B n p = 603 then
    (if 40 ≤ c then .inl (sl_f p 4) else
    if tx_kd B n p = 611 then (if c = 0 then sl_s B n R (tx_nx B n p) else .inl (sl_f p 4)) else
    if c = 0 then .inl (sl_f p 4) else
    if tx_kd B n p = 600 then (if 9 ≤ R 2 then .inl (sl_f p 4) else sl_o B n R (tx_nx B n p)) else
    if R 3 < 12 then sl_n B n R (tx_nx B n p) else .inl (sl_f p 4))
  else .inl (sl_f p 0)
def sl_tg (M : sd_M) (R : Nat → Int) : Prop := (M 7 0 = 1 ∧ (R 0 = 1 → M 7 1 = R 1) ∧ M 7 2 = R 2 ∧ M 7 6 = R 3) ∧ (∀ f : Nat, (f : Int) < R 2 → M 8 f = R (4 + f) ∧ M 9 f = R (13 + f) ∧ M 10 f = ms_nf R f (R 3).toNat) ∧ ∀ k : Nat, (k : Int) < R 3 → M 11 k = R (22 + 3 * k) ∧ M 12 k = R (23 + 3 * k) ∧ M 13 k = R (24 + 3 * k)
def sl_fr (M N : sd_M) : Prop := (∀ a, a ≠ 1 → ¬ (7 ≤ a ∧ a < 14) → N a = M a) ∧ ∀ j, j ≠ 2 → j ≠ 4 → N 1 j = M 1 j
theorem sl_fr_rf {M : sd_M} : sl_fr M M := ⟨fun _ _ _ => rfl, fun _ _ _ => rfl⟩
theorem sl_fr_tr {M N K : sd_M} (h : sl_fr M N) (g : sl_fr N K) : sl_fr M K := ⟨fun a x y => (g.1 a x y).trans (h.1 a x y), fun j x y => (g.2 j x y).trans (h.2 j x y)⟩
/-- a step of the class's reading -/
def sl_st (M N : sd_M) : Prop := (∀ a, a ≠ 1 → N a = M a) ∧ ∀ j, j ≠ 4 → N 1 j = M 1 j
theorem sl_st_tr {M N K : sd_M} (h : sl_st M N) (g : sl_st N K) : sl_st M K := ⟨fun a x => (g.1 a x).trans (h.1 a x), fun j x => (g.2 j x).trans (h.2 j x)⟩
theorem sl_st_fr {M N : sd_M} (h : sl_st M N) : sl_fr M N := ⟨fun a x _ => h.1 a x, fun j _ y => h.2 j y⟩
theorem sl_f2_fr {M : sd_M} {v : Int} : sl_fr M (sd_s M 1 2 v) := ⟨fun a x _ => sd_s_a x, fun j x _ => sd_s_j x⟩
theorem sl_tg_st {M N : sd_M} {R : Nat → Int} (h : sl_tg M R) (g : sl_st M N) : sl_tg N R := by
  unfold sl_tg
  rw [g.1 7 (by omega), g.1 8 (by omega), g.1 9 (by omega), g.1 10 (by omega), g.1 11 (by omega), g.1 12 (by omega), g.1 13 (by omega)]
  exact h
/-- the class reads a number -/
theorem cl_number {M : sd_M} {B : Nat → Int} {n p : Nat} (h : tx_cs M B n p) {lo hi : Int} (hlo : 0 ≤ lo) : (tx_ok B n p lo hi → ∃ N, f_X7_number lo hi M = some (tx_vl B n p, N) ∧ tx_cs N B n (tx_nx B n p) ∧ sl_st M N ∧ tx_vl B n p ≠ -1) ∧ (¬ tx_ok B n p lo hi → ∃ N, f_X7_number lo hi M = some (-1, N) ∧ N 1 2 = tx_nf B n p ∧ sl_fr M N) := by
  have f0 := tx_fails h (w := 0) (by omega)
  have f1 := tx_fails h (w := 1) (by omega)
  rw [show ((0 : Nat) : Int) = 0 from rfl] at f0
  rw [show ((1 : Nat) : Int) = 1 from rfl] at f1
  obtain ⟨N, eN, cN, a1, a2⟩ := tx_step h
  unfold f_X7_number
  rw [tx_value h, Option.bind_some]
  simp only []
  rw [tx_kind h, Option.bind_some]
  simp only []
  have k33 : f_X7_number_33 M = some (-1, sd_s M 1 2 ((1 + 8 * p + 1 : Nat) : Int)) := by
    unfold f_X7_number_33
    rw [f1, Option.bind_some]
  constructor
  · rintro ⟨c1, c2, c3⟩
    rw [if_pos c1, if_neg (by omega), if_pos c3, eN, Option.bind_some]
    exact ⟨N, rfl, cN, ⟨a1, a2⟩, by omega⟩
  · intro c
    by_cases c1 : tx_kd B n p = 513
    · rw [if_pos c1]
      have e : tx_nf B n p = ((1 + 8 * p + 1 : Nat) : Int) := by
        unfold tx_nf
        rw [if_pos c1]
      by_cases c2 : tx_vl B n p < lo
      · rw [if_pos c2]
        exact ⟨_, k33, by rw [sd_s_at, e], sl_f2_fr⟩
      · rw [if_neg c2, if_neg (fun w => c ⟨c1, by omega, w⟩)]
        exact ⟨_, k33, by rw [sd_s_at, e], sl_f2_fr⟩
    · have e : tx_nf B n p = ((1 + 8 * p + 0 : Nat) : Int) := by
        unfold tx_nf
        rw [if_neg c1]
      rw [if_neg c1, f0, Option.bind_some]
      exact ⟨sd_s M 1 2 ((1 + 8 * p + 0 : Nat) : Int), rfl, by rw [sd_s_at, e], sl_f2_fr⟩
theorem ms_nf_0 {S : Nat → Int} {f : Int} : ∀ n : Nat, (∀ k, k < n → S (22 + 3 * k) ≠ f) → ms_nf S f n = 0
  | 0, _ => rfl
  | n + 1, h => by
    rw [ms_nf, ms_nf_0 n (fun k hk => h k (by omega)), if_neg (h n (by omega))]
    rfl
theorem sl_addOffer {M : sd_M} {R : Nat → Int} (tg : sl_tg M R) (tl : ms_tl R) (h9 : R 2 < 9) (v w : Int) : ∃ N, f_X8_addOffer 7 v w M = some (0, N) ∧ sl_tg N (ms_u (ms_u (ms_u R (4 + (R 2).toNat) v) (13 + (R 2).toNat) w) 2 (R 2 + 1)) ∧ ∀ a, ¬ (7 ≤ a ∧ a < 14) → N a = M a := by
  obtain ⟨⟨t0, t1, t2, t6⟩, tf, tk⟩ := tg
  obtain ⟨l0, l2, l3, lf, lk, l4, l5, l6⟩ := tl
  obtain ⟨m, hm⟩ : ∃ m : Nat, R 2 = m := ⟨(R 2).toNat, by omega⟩
  have m9 : m < 9 := by omega
  have e2 : M 7 2 = (m : Int) := by rw [t2, hm]
  unfold f_X8_addOffer
  simp (disch := omega) only [sd_s_a, e2, Int.toNat_natCast]
  rw [if_neg (by omega), if_pos (by omega), if_pos (by omega), if_pos (by omega), sd_wid (by omega) (by omega), hm, Int.toNat_natCast]
  refine ⟨_, rfl, ⟨⟨?_, ?_, ?_, ?_⟩, fun f hf => ?_, fun k hk => ?_⟩, fun a ha => ?_⟩
  · rw [sd_s_j (by omega), sd_s_a (by omega), sd_s_a (by omega), sd_s_a (by omega), t0]
  · intro r
    rw [ms_u_ne (by omega), ms_u_ne (by omega), ms_u_ne (by omega)] at r
    rw [sd_s_j (by omega), sd_s_a (by omega), sd_s_a (by omega), sd_s_a (by omega), t1 r, ms_u_ne (by omega), ms_u_ne (by omega), ms_u_ne (by omega)]
  · rw [sd_s_at, ms_u_at]
  · rw [sd_s_j (by omega), sd_s_a (by omega), sd_s_a (by omega), sd_s_a (by omega), t6, ms_u_ne (by omega), ms_u_ne (by omega), ms_u_ne (by omega)]
  · rw [ms_u_at] at hf
    have e3 : ms_u (ms_u (ms_u R (4 + m) v) (13 + m) w) 2 ((m : Int) + 1) 3 = R 3 := by rw [ms_u_ne (by omega), ms_u_ne (by omega), ms_u_ne (by omega)]
    rw [e3, ms_nf_c (S := R) (R 3).toNat (fun k hk => by rw [ms_u_ne (by omega), ms_u_ne (by omega), ms_u_ne (by omega)])]
    rw [sd_s_a (show (8 : Nat) ≠ 7 by omega), sd_s_a (show (9 : Nat) ≠ 7 by omega), sd_s_a (show (10 : Nat) ≠ 7 by omega), sd_s_a (show (8 : Nat) ≠ 10 by omega), sd_s_a (show (8 : Nat) ≠ 9 by omega), sd_s_a (show (9 : Nat) ≠ 10 by omega)]
    by_cases c : f = m
    · rw [c, sd_s_at, sd_s_at, sd_s_at, ms_u_ne (by omega), ms_u_ne (by omega), ms_u_at, ms_u_ne (by omega), ms_u_at, ms_nf_0]
      · exact ⟨rfl, rfl, rfl⟩
      · intro k hk
        have := (lk k (by omega)).1
        omega
    · rw [sd_s_j c, sd_s_j c, sd_s_j c, sd_s_a (show (9 : Nat) ≠ 8 by omega), sd_s_a (show (10 : Nat) ≠ 9 by omega), sd_s_a (show (10 : Nat) ≠ 8 by omega), ms_u_ne (by omega), ms_u_ne (by omega), ms_u_ne (by omega), ms_u_ne (by omega), ms_u_ne (by omega), ms_u_ne (by omega)]
      exact tf f (by omega)
  · rw [ms_u_ne (by omega), ms_u_ne (by omega), ms_u_ne (by omega)] at hk
    have q := tk k hk
    rw [ms_u_ne (by omega), ms_u_ne (by omega), ms_u_ne (by omega), ms_u_ne (by omega), ms_u_ne (by omega), ms_u_ne (by omega), ms_u_ne (by omega), ms_u_ne (by omega), ms_u_ne (by omega)]
    simp (disch := omega) only [sd_s_a]
    exact q
  · simp (disch := omega) only [sd_s_a]
theorem sl_addNeed {M : sd_M} {R : Nat → Int} (tg : sl_tg M R) (tl : ms_tl R) (h12 : R 3 < 12) {v w x : Int} (hv : 0 ≤ v ∧ v < R 2) : ∃ N, f_X8_addNeed 7 v w x M = some (0, N) ∧ sl_tg N (ms_u (ms_u (ms_u (ms_u R (22 + 3 * (R 3).toNat) v) (23 + 3 * (R 3).toNat) w) (24 + 3 * (R 3).toNat) x) 3 (R 3 + 1)) ∧ ∀ a, ¬ (7 ≤ a ∧ a < 14) → N a = M a := by
  obtain ⟨⟨t0, t1, t2, t6⟩, tf, tk⟩ := tg
  obtain ⟨l0, l2, l3, lf, lk, l4, l5, l6⟩ := tl
  obtain ⟨m, hm⟩ : ∃ m : Nat, R 3 = m := ⟨(R 3).toNat, by omega⟩
  obtain ⟨g, rfl⟩ : ∃ g : Nat, v = g := ⟨v.toNat, by omega⟩
  have m9 : m < 12 := by omega
  have e6 : M 7 6 = (m : Int) := by rw [t6, hm]
  have fg := (tf g hv.2).2.2
  have nb : ∀ k, 0 ≤ ms_nf R (g : Int) k ∧ ms_nf R (g : Int) k ≤ k := by
    intro k
    induction k with
    | zero => exact ⟨Int.le_refl _, Int.le_refl _⟩
    | succ k ih =>
      rw [ms_nf]
      split <;> omega
  have nb2 := nb (R 3).toNat
  unfold f_X8_addNeed
  simp (disch := omega) only [sd_s_a, e6, t2, Int.toNat_natCast]
  rw [if_neg (by omega), if_neg (by omega), if_neg (by omega), if_pos (by omega), if_pos (by omega), if_pos (by omega), if_pos (by omega), if_pos (by omega), fg, hm, Int.toNat_natCast, sd_wid (z := (m : Int) + 1) (by omega) (by omega)]
  rw [hm, Int.toNat_natCast] at nb2
  rw [sd_wid (by omega) (by omega)]
  have e3 : ms_u (ms_u (ms_u (ms_u R (22 + 3 * m) (g : Int)) (23 + 3 * m) w) (24 + 3 * m) x) 3 ((m : Int) + 1) 3 = (m : Int) + 1 := ms_u_at
  refine ⟨_, rfl, ⟨⟨?_, ?_, ?_, ?_⟩, fun f hf => ?_, fun k hk => ?_⟩, fun a ha => ?_⟩
  · rw [sd_s_a (by omega), sd_s_j (by omega), sd_s_a (by omega), sd_s_a (by omega), sd_s_a (by omega), t0]
  · intro r
    rw [ms_u_ne (by omega), ms_u_ne (by omega), ms_u_ne (by omega), ms_u_ne (by omega)] at r
    rw [sd_s_a (by omega), sd_s_j (by omega), sd_s_a (by omega), sd_s_a (by omega), sd_s_a (by omega), t1 r, ms_u_ne (by omega), ms_u_ne (by omega), ms_u_ne (by omega), ms_u_ne (by omega)]
  · rw [sd_s_a (by omega), sd_s_j (by omega), sd_s_a (by omega), sd_s_a (by omega), sd_s_a (by omega), t2, ms_u_ne (by omega), ms_u_ne (by omega), ms_u_ne (by omega), ms_u_ne (by omega)]
  · rw [sd_s_a (by omega), sd_s_at, e3]
  · have hf2 : (f : Int) < R 2 := by
      rw [ms_u_ne (by omega), ms_u_ne (by omega), ms_u_ne (by omega), ms_u_ne (by omega)] at hf
      exact hf
    have q := tf f hf2
    have f9 : f < 9 := by omega
    rw [e3, show ((m : Int) + 1).toNat = m + 1 by omega, ms_nf]
    have en : ms_nf (ms_u (ms_u (ms_u (ms_u R (22 + 3 * m) (g : Int)) (23 + 3 * m) w) (24 + 3 * m) x) 3 ((m : Int) + 1)) (f : Int) m = ms_nf R (f : Int) m := ms_nf_c m (fun k hk => by rw [ms_u_ne (by omega), ms_u_ne (by omega), ms_u_ne (by omega), ms_u_ne (by omega)])
    rw [en]
    rw [show ms_u (ms_u (ms_u (ms_u R (22 + 3 * m) (g : Int)) (23 + 3 * m) w) (24 + 3 * m) x) 3 ((m : Int) + 1) (22 + 3 * m) = (g : Int) by rw [ms_u_ne (by omega), ms_u_ne (by omega), ms_u_ne (by omega), ms_u_at]]
    rw [hm, Int.toNat_natCast] at q
    refine ⟨?_, ?_, ?_⟩
    · simp (disch := omega) only [sd_s_a, ms_u_ne]
      exact q.1
    · simp (disch := omega) only [sd_s_a, ms_u_ne]
      exact q.2.1
    · by_cases c : f = g
      · rw [c, sd_s_at, if_pos rfl]
      · rw [sd_s_j c, if_neg (by omega), sd_s_a (by omega), sd_s_a (by omega), sd_s_a (by omega), sd_s_a (by omega), q.2.2]
        omega
  · rw [e3] at hk
    by_cases c : k = m
    · subst c
      refine ⟨?_, ?_, ?_⟩
      · simp (disch := omega) only [sd_s_a, ms_u_ne, sd_s_at, ms_u_at]
      · simp (disch := omega) only [sd_s_a, ms_u_ne, sd_s_at, ms_u_at]
      · simp (disch := omega) only [sd_s_a, ms_u_ne, sd_s_at, ms_u_at]
    · have q := tk k (by omega)
      simp (disch := omega) only [sd_s_a, ms_u_ne, sd_s_j]
      exact q
  · simp (disch := omega) only [sd_s_a]
