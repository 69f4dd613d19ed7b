/-! clauses one behind the other -/
theorem tx_kd_n {B : Nat → Int} {n p : Nat} (h : p ≤ n) (hbb : ∀ j, j < n → -128 ≤ B j ∧ B j < 128) : tx_kd B n p = 512 ↔ n ≤ p := by
  unfold tx_kd
  by_cases c1 : n ≤ p
  · rw [if_pos c1]
    exact ⟨fun _ => c1, fun _ => rfl⟩
  · rw [if_neg c1]
    have u := tx_ub_c (B p)
    have ub := hbb p (by omega)
    constructor
    · intro w
      split at w
      · omega
      · split at w
        · omega
        · split at w <;> omega
    · intro w
      omega
theorem tx_sg {B : Nat → Int} {n p : Nat} (hbb : ∀ j, j < n → -128 ≤ B j ∧ B j < 128) {s : Int} (h1 : 0 ≤ s ∧ s < 128) (h2 : ¬ (48 ≤ s ∧ s ≤ 57)) (h3 : ¬ (97 ≤ s ∧ s ≤ 122)) (h4 : s ≠ 60 ∧ s ≠ 62) : ((if p < n then tx_ub (B p) else -1) = s ↔ tx_kd B n p = s) ∧ (tx_kd B n p = s → p < n ∧ B p = s ∧ tx_nx B n p = tx_s B n (p + 1)) := by
  by_cases c1 : n ≤ p
  · have e : tx_kd B n p = 512 := by
      unfold tx_kd
      rw [if_pos c1]
    rw [if_neg (by omega), e]
    exact ⟨by omega, by omega⟩
  rw [if_pos (by omega)]
  have u := tx_ub_c (B p)
  have ub := hbb p (by omega)
  by_cases c2 : B p = s
  · have d0 : tx_d B n p = 0 := by
      unfold tx_d
      rw [show n - p = (n - p - 1) + 1 by omega, tx_run, if_neg (by omega)]
    have l0 : tx_l B n p = 0 := by
      unfold tx_l
      rw [show n - p = (n - p - 1) + 1 by omega, tx_run, if_neg (by omega)]
    have o0 : tx_oq B n p = false := by
      unfold tx_oq
      rw [decide_eq_false (show ¬ B p = 60 by omega), decide_eq_false (show ¬ B p = 62 by omega)]
      rfl
    have k : tx_kd B n p = s := by
      unfold tx_kd
      rw [if_neg c1, d0, if_neg (by omega), l0, if_neg (by omega), o0, if_neg (by decide)]
      omega
    refine ⟨⟨fun _ => k, fun _ => by omega⟩, fun _ => ⟨by omega, c2, ?_⟩⟩
    unfold tx_nx tx_len
    rw [if_neg c1, d0, if_neg (by omega), l0, if_neg (by omega), o0, if_neg (by decide)]
  · have k : tx_kd B n p ≠ s := by
      unfold tx_kd
      rw [if_neg c1]
      split
      · omega
      · split
        · omega
        · split <;> omega
    exact ⟨⟨fun w => absurd w (by omega), fun w => absurd w k⟩, fun w => absurd w k⟩
theorem sl_pos {B : Nat → Int} {n c p : Nat} {R : Nat → Int} : sl_p (sl_c B n c R p) (fun f => 0 < f) (fun _ _ => True) := by
  have f1 : ∀ p w, 0 < sl_f p w := fun p w => by unfold sl_f; omega
  have f2 : ∀ p, 0 < tx_nf B n p := fun p => by unfold tx_nf; omega
  unfold sl_c sl_s sl_o sl_n
  repeat' split
  all_goals first | exact f1 _ _ | exact f2 _ | trivial
/-- the reference at a clause of a slip -/
def sl_rs (K : sd_M) (B : Nat → Int) (n c : Nat) (R : Nat → Int) (p : Nat) : Prop := tx_rs K B n p ∧ K 331 9 = 0 ∧ K 331 14 = (c : Int) ∧ K 331 11 = 6 ∧ K 337 = R
def sl_r4 (M N : sd_M) : Prop := (∀ a, a ≠ 331 → a ≠ 337 → N a = M a) ∧ ∀ j, j ≠ 1 → j ≠ 8 → j ≠ 9 → j ≠ 10 → j ≠ 14 → N 331 j = M 331 j
theorem sl_r4_tr {M N K : sd_M} (h : sl_r4 M N) (g : sl_r4 N K) : sl_r4 M K := ⟨fun a x y => (g.1 a x y).trans (h.1 a x y), fun j w x y z v => (g.2 j w x y z v).trans (h.2 j w x y z v)⟩
theorem sl_r4_7 {M N : sd_M} (h : tx_r7 M N) : sl_r4 M N := ⟨h.1, fun j _ x y z _ => h.2 j x y z⟩
theorem sl_r4_s {M : sd_M} {i : Nat} {v : Int} (h : i = 1 ∨ i = 8 ∨ i = 9 ∨ i = 10 ∨ i = 14) : sl_r4 M (sd_s M 331 i v) := ⟨fun a x _ => sd_s_a x, fun j _ _ _ _ _ => sd_s_j (by omega)⟩
theorem sl_rfc {K : sd_M} {B : Nat → Int} {n p c : Nat} {R : Nat → Int} (h : sl_rs K B n c R p) (tl : ms_tl R) (h0 : R 0 = 0 ↔ c = 0) (hc : c ≤ 40) : sl_p (sl_c B n c R p) (fun f => ∃ N, f_X10_clauseHere K = some (0, N) ∧ N 331 9 = f ∧ sl_r4 K N) (fun p2 R2 => ∃ N, f_X10_clauseHere K = some (1, N) ∧ sl_rs N B n (c + 1) R2 p2 ∧ sl_r4 K N) := by
  obtain ⟨rs, r9, r14, r11, rR⟩ := h
  have b := tx_rs_b rs
  have l2 := tl.2.1
  have l3 := tl.2.2.1
  obtain ⟨K1, hK1⟩ : ∃ K1, K1 = sd_s K 331 8 (p : Int) := ⟨_, rfl⟩
  have q8 : K1 331 8 = (p : Int) := by rw [hK1, sd_s_at]
  have rs1 : tx_rs K1 B n p := hK1 ▸ tx_rs_8 rs
  have q9 : K1 331 9 = 0 := by rw [hK1, sd_s_j (by omega), r9]
  have q14 : K1 331 14 = (c : Int) := by rw [hK1, sd_s_j (by omega), r14]
  have q11 : K1 331 11 = 6 := by rw [hK1, sd_s_j (by omega), r11]
  have qR : K1 337 = R := by rw [hK1, sd_s_a (by omega), rR]
  have f1 : sl_r4 K K1 := hK1 ▸ sl_r4_s (by omega)
  have ff : ∀ w : Nat, w < 8 → ∃ N, ((f_X10_fails (w : Int) (p : Int) K1).bind fun r1 => if r1.1 = 0 ∨ r1.1 = 1 then some (r1.1, r1.2) else none) = some (0, N) ∧ N 331 9 = sl_f p w ∧ sl_r4 K N := by
    intro w hw
    refine ⟨sd_s K1 331 9 (sl_f p w), ?_, sd_s_at, sl_r4_tr f1 (sl_r4_s (by omega))⟩
    rw [tx_rfails q9 (by omega) hw, Option.bind_some]
    rfl
  have e : f_X10_clauseHere K = f_X10_clauseHere_24 (p : Int) 1 K1 := by
    unfold f_X10_clauseHere
    rw [tx_see rs, Option.bind_some, ← hK1]
    simp only []
    rw [q11, if_pos rfl, q8]
  have iw : ∀ (j : Nat) (hj : j < 17) {W : Int} (hW : tx_cn.getD j 0 = W), f_X10_isWord W K1 = some (if tx_kd B n p = ((600 + j : Nat) : Int) then 1 else 0, K1) := by
    intro j hj W hW
    rw [tx_isWord rs1 j hj hW, sd_s_id q8]
  have es : f_X10_isSlipWord K1 = some (if tx_kd B n p = 611 ∨ tx_kd B n p = 600 ∨ tx_kd B n p = 603 then 1 else 0, K1) := by
    unfold f_X10_isSlipWord
    rw [iw 11 (by omega) (W := 1936484720) rfl, Option.bind_some]
    simp only []
    by_cases a : tx_kd B n p = 611
    · rw [if_pos (show tx_kd B n p = ((600 + 11 : Nat) : Int) from a), if_neg (show ¬ (1 : Int) = 0 by decide), if_pos (Or.inl a)]
    rw [if_neg (show ¬ tx_kd B n p = ((600 + 11 : Nat) : Int) from a), if_pos (show (0 : Int) = 0 from rfl), iw 0 (by omega) (W := 478459356530) rfl, Option.bind_some]
    simp only []
    by_cases a2 : tx_kd B n p = 600
    · rw [if_pos (show tx_kd B n p = ((600 + 0 : Nat) : Int) from a2), if_neg (show ¬ (1 : Int) = 0 by decide), if_pos (Or.inr (Or.inl a2))]
    rw [if_neg (show ¬ tx_kd B n p = ((600 + 0 : Nat) : Int) from a2), if_pos (show (0 : Int) = 0 from rfl), iw 3 (by omega) (W := 474147546227) rfl, Option.bind_some]
    simp only []
    by_cases a3 : tx_kd B n p = 603
    · rw [if_pos (show tx_kd B n p = ((600 + 3 : Nat) : Int) from a3), if_neg (show ¬ (1 : Int) = 0 by decide), if_pos (Or.inr (Or.inr a3))]
    rw [if_neg (show ¬ tx_kd B n p = ((600 + 3 : Nat) : Int) from a3), if_pos (show (0 : Int) = 0 from rfl), if_neg (by omega)]
  rw [e]
  unfold f_X10_clauseHere_24
  rw [if_neg (show ¬ (1 : Int) = 0 by decide), es, Option.bind_some]
  simp only []
  unfold sl_c
  by_cases a1 : tx_kd B n p = 611 ∨ tx_kd B n p = 600 ∨ tx_kd B n p = 603
  · rw [if_pos a1, if_pos a1, if_neg (show ¬ (1 : Int) = 0 by decide)]
    unfold f_X10_clauseHere_56
    rw [if_neg (show ¬ (1 : Int) = 0 by decide), q14]
    unfold f_X10_clauseHere_71
    by_cases a2 : 40 ≤ c
    · rw [if_pos a2, if_pos (show (c : Int) = 40 by omega)]
      exact ff 4 (by omega)
    rw [if_neg a2, if_neg (show ¬ (c : Int) = 40 by omega), if_neg (show ¬ (1 : Int) = 0 by decide), q14, sd_wid (by omega) (by omega)]
    obtain ⟨K2, hK2⟩ : ∃ K2, K2 = sd_s K1 331 14 ((c : Int) + 1) := ⟨_, rfl⟩
    rw [← hK2]
    have p8 : K2 331 8 = (p : Int) := by rw [hK2, sd_s_j (by omega), q8]
    have p9 : K2 331 9 = 0 := by rw [hK2, sd_s_j (by omega), q9]
    have p14 : K2 331 14 = (c : Int) + 1 := by rw [hK2, sd_s_at]
    have p11 : K2 331 11 = 6 := by rw [hK2, sd_s_j (by omega), q11]
    have pR : K2 337 = R := by rw [hK2, sd_s_a (by omega), qR]
    have rs2 : tx_rs K2 B n p := hK2 ▸ tx_rs_c rs1 (sd_s_j (by omega)) (sd_s_j (by omega)) (sd_s_a (by omega))
    have f2 : sl_r4 K K2 := sl_r4_tr f1 (hK2 ▸ sl_r4_s (by omega))
    have iw2 : ∀ (j : Nat) (hj : j < 17) {W : Int} (hW : tx_cn.getD j 0 = W), f_X10_isWord W K2 = some (if tx_kd B n p = ((600 + j : Nat) : Int) then 1 else 0, K2) := by
      intro j hj W hW
      rw [tx_isWord rs2 j hj hW, sd_s_id p8]
    have k6 : 600 ≤ tx_kd B n p := by omega
    have ff2 : ∃ N, ((f_X10_fails 4 (p : Int) K2).bind fun r1 => if r1.1 = 0 ∨ r1.1 = 1 then some (r1.1, r1.2) else none) = some (0, N) ∧ N 331 9 = sl_f p 4 ∧ sl_r4 K N := by
      refine ⟨sd_s K2 331 9 (sl_f p 4), ?_, sd_s_at, sl_r4_tr f2 (sl_r4_s (by omega))⟩
      have := tx_rfails p9 (p := p) (w := 4) (by omega) (by omega)
      rw [show ((4 : Nat) : Int) = 4 from rfl] at this
      rw [this, Option.bind_some]
      rfl
    have w01 : ∀ {o : Option (Int × sd_M)} {r : Int} {N : sd_M}, o = some (r, N) → (r = 0 ∨ r = 1) → (o.bind fun r1 => if r1.1 = 0 ∨ r1.1 = 1 then some (r1.1, r1.2) else none) = some (r, N) := by
      intro o r N e hr
      rw [e, Option.bind_some]
      exact if_pos hr
    have kk : ∀ {o : sl_R} {g : Option (Int × sd_M)}, sl_p o (fun f => ms_T g (sl_no K2 f)) (fun p2 R2 => ms_T g (sl_ok K2 B n p2 R2)) → sl_p o (fun f => ∃ N, ((g.bind fun r1 => if r1.1 = 0 ∨ r1.1 = 1 then some (r1.1, r1.2) else none).bind fun r1 => if r1.1 = 0 ∨ r1.1 = 1 then some (r1.1, r1.2) else none) = some (0, N) ∧ N 331 9 = f ∧ sl_r4 K N) (fun p2 R2 => ∃ N, ((g.bind fun r1 => if r1.1 = 0 ∨ r1.1 = 1 then some (r1.1, r1.2) else none).bind fun r1 => if r1.1 = 0 ∨ r1.1 = 1 then some (r1.1, r1.2) else none) = some (1, N) ∧ sl_rs N B n (c + 1) R2 p2 ∧ sl_r4 K N) := by
      intro o g hp
      refine sl_p_w hp (fun f hf => ?_) (fun p2 R2 hf => ?_)
      · obtain ⟨r, N, eN, rfl, n9, fr⟩ := hf
        exact ⟨N, w01 (w01 eN (Or.inl rfl)) (Or.inl rfl), n9, sl_r4_tr f2 (sl_r4_7 fr)⟩
      · obtain ⟨r, N, eN, rfl, n9, nrs, nR, fr⟩ := hf
        exact ⟨N, w01 (w01 eN (Or.inr rfl)) (Or.inr rfl), ⟨nrs, n9, by rw [fr.2 14 (by omega) (by omega) (by omega), p14]; rfl, by rw [fr.2 11 (by omega) (by omega) (by omega), p11], nR⟩, sl_r4_tr f2 (sl_r4_7 fr)⟩
    unfold f_X10_slipLineHere
    rw [iw2 11 (by omega) (W := 1936484720) rfl, Option.bind_some]
    simp only []
    by_cases b1 : tx_kd B n p = 611
    · rw [if_pos b1, if_pos (show tx_kd B n p = ((600 + 11 : Nat) : Int) from b1), if_neg (show ¬ (1 : Int) = 0 by decide)]
      by_cases a3 : c = 0
      · rw [if_pos a3]
        exact kk (sl_r_s rs2 p8 p9 k6 pR (h0.mpr a3))
      · rw [if_neg a3]
        unfold f_X10_isSlipHere
        rw [pR, if_neg (by have := tl.1; omega)]
        obtain ⟨N, eN, n9, fr⟩ := ff2
        exact ⟨N, w01 (w01 eN (Or.inl rfl)) (Or.inl rfl), n9, fr⟩
    rw [if_neg b1, if_neg (show ¬ tx_kd B n p = ((600 + 11 : Nat) : Int) from b1), if_pos (show (0 : Int) = 0 from rfl), pR]
    by_cases a3 : c = 0
    · rw [if_pos a3, if_pos (h0.mpr a3)]
      obtain ⟨N, eN, n9, fr⟩ := ff2
      exact ⟨N, w01 eN (Or.inl rfl), n9, fr⟩
    rw [if_neg a3, if_neg (fun w => a3 (h0.mp w)), iw2 0 (by omega) (W := 478459356530) rfl, Option.bind_some]
    simp only []
    by_cases b2 : tx_kd B n p = 600
    · rw [if_pos b2, if_pos (show tx_kd B n p = ((600 + 0 : Nat) : Int) from b2), if_neg (show ¬ (1 : Int) = 0 by decide)]
      by_cases a4 : 9 ≤ R 2
      · rw [if_pos a4]
        unfold f_X10_isOfferHere
        rw [pR, if_pos (by omega)]
        obtain ⟨N, eN, n9, fr⟩ := ff2
        exact ⟨N, w01 (w01 eN (Or.inl rfl)) (Or.inl rfl), n9, fr⟩
      · rw [if_neg a4]
        exact kk (sl_r_o rs2 p8 p9 k6 pR tl (by omega))
    · rw [if_neg b2, if_neg (show ¬ tx_kd B n p = ((600 + 0 : Nat) : Int) from b2), if_pos (show (0 : Int) = 0 from rfl)]
      by_cases a4 : R 3 < 12
      · rw [if_pos a4]
        exact kk (sl_r_n rs2 p8 p9 k6 pR tl a4)
      · rw [if_neg a4]
        unfold f_X10_isNeedsHere
        rw [pR, if_pos (by omega)]
        obtain ⟨N, eN, n9, fr⟩ := ff2
        exact ⟨N, w01 (w01 eN (Or.inl rfl)) (Or.inl rfl), n9, fr⟩
  · rw [if_neg a1, if_neg a1, if_pos (show (0 : Int) = 0 from rfl)]
    unfold f_X10_clauseHere_49
    exact ff 0 (by omega)
