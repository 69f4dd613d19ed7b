/-! what the reference sees, in the class's tokens -/
theorem tx_isWord {M : sd_M} {B : Nat → Int} {n p : Nat} (h : tx_rs M B n p) (j : Nat) (hj : j < 17) {W : Int} (hW : tx_cn.getD j 0 = W) : f_X10_isWord W M = some (if tx_kd B n p = ((600 + j : Nat) : Int) then 1 else 0, sd_s M 331 8 (p : Int)) := by
  have b := tx_rs_b h
  have k := tx_word_k (B := B) b.1 (fun j hj => (h.1.2.2 j hj).2) hj
  rw [tx_isWord0 h, ← hW]
  by_cases c : tx_kd B n p = ((600 + j : Nat) : Int)
  · rw [if_pos c, if_pos (k.mpr c)]
  · rw [if_neg c, if_neg (fun w => c (k.mp w))]
theorem tx_wordHere {M : sd_M} {B : Nat → Int} {n p : Nat} (h : tx_rs M B n p) : f_X10_wordHere M = some (if 600 ≤ tx_kd B n p ∧ tx_kd B n p < 611 then tx_kd B n p - 600 else -1, sd_s M 331 8 (p : Int)) := by
  have h2 := tx_rs_8 h
  have g : ∀ (j : Nat) (hj : j < 17) {W : Int} (hW : tx_cn.getD j 0 = W), f_X10_isWord W (sd_s M 331 8 (p : Int)) = some (if tx_kd B n p = ((600 + j : Nat) : Int) then 1 else 0, sd_s M 331 8 (p : Int)) := by
    intro j hj W hW
    rw [tx_isWord h2 j hj hW, sd_s_ss]
  have g0 := tx_isWord h 0 (by omega) (W := 478459356530) rfl
  generalize tx_kd B n p = k at g g0 ⊢
  unfold f_X10_wordHere
  rw [g0, Option.bind_some]
  simp only []
  by_cases c0 : k = ((600 + 0 : Nat) : Int)
  · rw [if_pos c0, if_neg (by decide), if_pos (by omega), c0]
    rfl
  rw [if_neg c0, if_pos (by trivial)]
  rw [g 1 (by omega) (W := 131333279212915) rfl, Option.bind_some]
  simp only []
  by_cases c1 : k = ((600 + 1 : Nat) : Int)
  · rw [if_pos c1, if_neg (by decide), if_pos (by omega), c1]
    rfl
  rw [if_neg c1, if_pos (by trivial)]
  rw [g 2 (by omega) (W := 126943688025203) rfl, Option.bind_some]
  simp only []
  by_cases c2 : k = ((600 + 2 : Nat) : Int)
  · rw [if_pos c2, if_neg (by decide), if_pos (by omega), c2]
    rfl
  rw [if_neg c2, if_pos (by trivial)]
  rw [g 3 (by omega) (W := 474147546227) rfl, Option.bind_some]
  simp only []
  by_cases c3 : k = ((600 + 3 : Nat) : Int)
  · rw [if_pos c3, if_neg (by decide), if_pos (by omega), c3]
    rfl
  rw [if_neg c3, if_pos (by trivial)]
  rw [g 4 (by omega) (W := 465625310579) rfl, Option.bind_some]
  simp only []
  by_cases c4 : k = ((600 + 4 : Nat) : Int)
  · rw [if_pos c4, if_neg (by decide), if_pos (by omega), c4]
    rfl
  rw [if_neg c4, if_pos (by trivial)]
  rw [g 5 (by omega) (W := 123610792682852) rfl, Option.bind_some]
  simp only []
  by_cases c5 : k = ((600 + 5 : Nat) : Int)
  · rw [if_pos c5, if_neg (by decide), if_pos (by omega), c5]
    rfl
  rw [if_neg c5, if_pos (by trivial)]
  rw [g 6 (by omega) (W := 478660552050) rfl, Option.bind_some]
  simp only []
  by_cases c6 : k = ((600 + 6 : Nat) : Int)
  · rw [if_pos c6, if_neg (by decide), if_pos (by omega), c6]
    rfl
  rw [if_neg c6, if_pos (by trivial)]
  rw [g 7 (by omega) (W := 495673373300) rfl, Option.bind_some]
  simp only []
  by_cases c7 : k = ((600 + 7 : Nat) : Int)
  · rw [if_pos c7, if_neg (by decide), if_pos (by omega), c7]
    rfl
  rw [if_neg c7, if_pos (by trivial)]
  rw [g 8 (by omega) (W := 33602627781095015) rfl, Option.bind_some]
  simp only []
  by_cases c8 : k = ((600 + 8 : Nat) : Int)
  · rw [if_pos c8, if_neg (by decide), if_pos (by omega), c8]
    rfl
  rw [if_neg c8, if_pos (by trivial)]
  rw [g 9 (by omega) (W := 1735356005) rfl, Option.bind_some]
  simp only []
  by_cases c9 : k = ((600 + 9 : Nat) : Int)
  · rw [if_pos c9, if_neg (by decide), if_pos (by omega), c9]
    rfl
  rw [if_neg c9, if_pos (by trivial)]
  rw [g 10 (by omega) (W := 6578553) rfl, Option.bind_some]
  simp only []
  by_cases c10 : k = ((600 + 10 : Nat) : Int)
  · rw [if_pos c10, if_neg (by decide), if_pos (by omega), c10]
    rfl
  rw [if_neg c10, if_pos (by trivial)]
  rw [if_neg (by omega)]
/-- what reading changes in the reference -/
def tx_rf (M N : sd_M) : Prop := (∀ a, a ≠ 331 → N a = M a) ∧ ∀ j, j ≠ 8 → j ≠ 9 → j ≠ 10 → N 331 j = M 331 j
theorem tx_rf_rf {M : sd_M} : tx_rf M M := ⟨fun _ _ => rfl, fun _ _ _ _ => rfl⟩
theorem tx_rf_tr {M N K : sd_M} (h : tx_rf M N) (g : tx_rf N K) : tx_rf M K := ⟨fun a x => (g.1 a x).trans (h.1 a x), fun j x y z => (g.2 j x y z).trans (h.2 j x y z)⟩
theorem tx_rf_s {M : sd_M} {i : Nat} {v : Int} (h : i = 8 ∨ i = 9 ∨ i = 10) : tx_rf M (sd_s M 331 i v) := ⟨fun a x => sd_s_a x, fun j x y z => sd_s_j (by omega)⟩
/-- the reference fails -/
theorem tx_rfails {M : sd_M} (h : M 331 9 = 0) {p w : Nat} (hp : p ≤ 400) (hw : w < 8) : f_X10_fails (w : Int) (p : Int) M = some (0, sd_s M 331 9 ((1 + 8 * p + w : Nat) : Int)) := by
  unfold f_X10_fails
  rw [if_pos h, sd_wid (z := 8 * (p : Int)) (by omega) (by omega), sd_wid (z := 1 + 8 * (p : Int)) (by omega) (by omega), sd_wid (z := 1 + 8 * (p : Int) + (w : Int)) (by omega) (by omega)]
  rfl
theorem tx_kd_d {B : Nat → Int} {n p : Nat} (hbb : ∀ j, j < n → -128 ≤ B j ∧ B j < 128) : (p < n ∧ 48 ≤ B p ∧ B p ≤ 57) ↔ tx_kd B n p = 513 := by
  have e : (p < n ∧ 48 ≤ B p ∧ B p ≤ 57) ↔ p < n ∧ 0 < tx_d B n p := by
    by_cases c : p < n
    · unfold tx_d
      rw [show n - p = (n - p - 1) + 1 by omega, tx_run]
      by_cases c2 : 48 ≤ B p ∧ B p ≤ 57
      · rw [if_pos c2]
        exact ⟨fun _ => ⟨c, by omega⟩, fun _ => ⟨c, c2⟩⟩
      · rw [if_neg c2]
        exact ⟨fun w => absurd w.2 c2, fun w => absurd w.2 (by omega)⟩
    · exact ⟨fun w => absurd w.1 c, fun w => absurd w.1 c⟩
  rw [e]
  unfold tx_kd
  constructor
  · intro w
    rw [if_neg (by omega), if_pos w.2]
  · intro w
    by_cases c1 : n ≤ p
    · rw [if_pos c1] at w
      omega
    rw [if_neg c1] at w
    by_cases c2 : 0 < tx_d B n p
    · exact ⟨by omega, c2⟩
    rw [if_neg c2] at w
    by_cases c3 : 0 < tx_l B n p
    · rw [if_pos c3] at w
      omega
    · rw [if_neg c3] at w
      exfalso
      have u := tx_ub_c (B p)
      have ub := hbb p (by omega)
      split at w <;> omega
theorem tx_number_l {B : Nat → Int} {n p d : Nat} (hp : p ≤ n) (n4 : n ≤ 400) (ed : d = tx_d B n p) (lo hi : Int) : ∀ (m i fu : Nat) (M : sd_M), i + m = d → m < fu → tx_rb M B n → M 331 8 = ((p + i : Nat) : Int) → f_X10_numberHere_34 f_X10_numberHere_88 fu lo hi (p : Int) (tx_nm B p (min i 5)) M = f_X10_numberHere_88 lo hi (p : Int) (tx_nm B p (min d 5)) (sd_s M 331 8 ((p + d : Nat) : Int)) := by
  intro m
  have db := tx_d_b (B := B) (n := n) (p := p)
  induction m with
  | zero =>
    intro i fu M hi2 hf h h8
    obtain ⟨fu, rfl⟩ : ∃ g, fu = g + 1 := ⟨fu - 1, by omega⟩
    obtain rfl : i = d := by omega
    have q := tx_run_at (lo := 48) (hi := 57) (B := B) (n := n) (p := p) (i := i) hp (by rw [ed]; exact Nat.le_refl _)
    have r := q.mp
    rw [f_X10_numberHere_34, h8, tx_isDigit h, Option.bind_some]
    simp only []
    rw [if_pos (by rw [if_neg (fun w => by have := r w; unfold tx_d at ed; omega)]), sd_s_id h8]
  | succ m ih =>
    intro i fu M hi2 hf h h8
    obtain ⟨fu, rfl⟩ : ∃ g, fu = g + 1 := ⟨fu - 1, by omega⟩
    have q := tx_run_in (lo := 48) (hi := 57) (B := B) (n - p) p i (by unfold tx_d at ed; omega)
    have b := tx_nm5 (B := B) (p := p) (k := min i 5) (by omega) (fun t ht => tx_run_in (lo := 48) (hi := 57) (B := B) (n - p) p t (by unfold tx_d at ed; omega))
    rw [f_X10_numberHere_34, h8, tx_isDigit h, Option.bind_some]
    simp only []
    rw [if_neg (by rw [if_pos (show p + i < n ∧ _ from ⟨by omega, q⟩)]; decide), h8]
    unfold f_X10_numberHere_75
    rw [h8, sd_wid (z := ((p + i : Nat) : Int) - (p : Int)) (by omega) (by omega), sd_wid (z := ((p + i : Nat) : Int) + 1) (by omega) (by omega), show ((p + i : Nat) : Int) + 1 = ((p + (i + 1) : Nat) : Int) by omega]
    have k := ih (i + 1) fu (sd_s M 331 8 ((p + (i + 1) : Nat) : Int)) (by omega) (by omega) (tx_rb_8 h) sd_s_at
    rw [sd_s_ss] at k
    by_cases c : 5 ≤ ((p + i : Nat) : Int) - (p : Int)
    · rw [if_pos c]
      rw [show min (i + 1) 5 = min i 5 by omega] at k
      exact k
    · rw [if_neg c, if_pos (by omega), Int.toNat_natCast, (h.2.2 (p + i) (by omega)).1, sd_wid (z := 10 * tx_nm B p (min i 5)) (by omega) (by omega), sd_wid (z := 10 * tx_nm B p (min i 5) + B (p + i)) (by omega) (by omega), sd_wid (z := 10 * tx_nm B p (min i 5) + B (p + i) - 48) (by omega) (by omega)]
      rw [show min (i + 1) 5 = i + 1 by omega, tx_nm, show tx_nm B p i * 10 + B (p + i) - 48 = 10 * tx_nm B p (min i 5) + B (p + i) - 48 by rw [show min i 5 = i by omega]; omega] at k
      exact k
theorem tx_len_d {B : Nat → Int} {n p : Nat} (h : p < n) (k : tx_kd B n p = 513) (hbb : ∀ j, j < n → -128 ≤ B j ∧ B j < 128) : 0 < tx_d B n p ∧ tx_nx B n p = tx_s B n (p + tx_d B n p) ∧ tx_vl B n p = if tx_d B n p ≤ 5 then tx_nm B p (tx_d B n p) else -1 := by
  have q := (tx_kd_d hbb).mpr k
  have d0 : 0 < tx_d B n p := by
    unfold tx_d
    rw [show n - p = (n - p - 1) + 1 by omega, tx_run, if_pos q.2]
    omega
  refine ⟨d0, ?_, ?_⟩
  · unfold tx_nx tx_len
    rw [if_neg (by omega), if_pos d0]
  · unfold tx_vl
    rw [if_neg (by omega), if_pos d0]
theorem tx_in {v lo hi : Int} {M : sd_M} : f_X10_in v lo hi M = some (if lo ≤ v ∧ v ≤ hi then 1 else 0, M) := by
  unfold f_X10_in
  by_cases c1 : v < lo
  · rw [if_pos (ms_cmp.1.mpr c1), if_neg (by omega)]
  · rw [if_neg (fun w => c1 (ms_cmp.1.mp w))]
    by_cases c2 : hi < v
    · rw [if_pos (ms_cmp.2.1.mpr c2), if_neg (by omega)]
    · rw [if_neg (fun w => c2 (ms_cmp.2.1.mp w)), if_pos (by omega)]
/-- a number is read, or there is a fault -/
abbrev tx_ok (B : Nat → Int) (n p : Nat) (lo hi : Int) : Prop := tx_kd B n p = 513 ∧ lo ≤ tx_vl B n p ∧ tx_vl B n p ≤ hi
def tx_nf (B : Nat → Int) (n p : Nat) : Int := ((1 + 8 * p + (if tx_kd B n p = 513 then 1 else 0) : Nat) : Int)
theorem tx_numberHere {M : sd_M} {B : Nat → Int} {n p : Nat} (h : tx_rs M B n p) (h9 : M 331 9 = 0) (lo hi : Int) (hlo : 0 ≤ lo) : ms_T (f_X10_numberHere lo hi M) (fun r N => tx_rf M N ∧ (tx_ok B n p lo hi → r = 1 ∧ N 331 9 = 0 ∧ N 331 10 = tx_vl B n p ∧ tx_rs N B n (tx_nx B n p)) ∧ (¬ tx_ok B n p lo hi → r = 0 ∧ N 331 9 = tx_nf B n p)) := by
  have b := tx_rs_b h
  have hbb : ∀ j, j < n → -128 ≤ B j ∧ B j < 128 := fun j hj => (h.1.2.2 j hj).2
  have kd := tx_kd_d (B := B) (n := n) (p := p) hbb
  have h2 := tx_rs_8 h
  have h92 : sd_s M 331 8 (p : Int) 331 9 = 0 := by rw [sd_s_j (by omega), h9]
  unfold f_X10_numberHere
  rw [tx_see h, Option.bind_some]
  simp only []
  rw [sd_s_at, tx_isDigit h2.1, Option.bind_some]
  simp only []
  rw [sd_s_at]
  by_cases c : tx_kd B n p = 513
  · have c1 := kd.mpr c
    obtain ⟨d0, nx, vl⟩ := tx_len_d c1.1 c hbb
    have db := tx_d_b (B := B) (n := n) (p := p)
    have dg : ∀ t, t < tx_d B n p → 48 ≤ B (p + t) ∧ B (p + t) ≤ 57 := fun t ht => tx_run_in (lo := 48) (hi := 57) (n - p) p t ht
    have q := tx_number_l (B := B) b.1 b.2.1 rfl lo hi (tx_d B n p) 0 4000 _ (by omega) (by omega) h2.1 sd_s_at
    rw [sd_s_ss] at q
    rw [if_neg (by rw [if_pos c1]; decide)]
    refine Eq.mpr (congrArg (fun o => ms_T o _) q) ?_
    have f117 : ∀ K, K 331 9 = 0 → f_X10_numberHere_117 (p : Int) K = some (0, sd_s K 331 9 ((1 + 8 * p + 1 : Nat) : Int)) := by
      intro K hK
      unfold f_X10_numberHere_117
      have f := tx_rfails hK (p := p) (w := 1) (by omega) (by omega)
      rw [show ((1 : Nat) : Int) = 1 from rfl] at f
      rw [f, Option.bind_some]
      simp only [if_true]
    have fr : tx_rf M (sd_s (sd_s M 331 8 ((p + tx_d B n p : Nat) : Int)) 331 10 (tx_nm B p (min (tx_d B n p) 5))) := tx_rf_tr (tx_rf_s (by omega)) (tx_rf_s (by omega))
    have z9 : sd_s (sd_s M 331 8 ((p + tx_d B n p : Nat) : Int)) 331 10 (tx_nm B p (min (tx_d B n p) 5)) 331 9 = 0 := by
      rw [sd_s_j (by omega), sd_s_j (by omega), h9]
    unfold f_X10_numberHere_88
    rw [sd_s_j (show (8 : Nat) ≠ 10 by omega), sd_s_at, sd_wid (by omega) (by omega)]
    by_cases c5 : tx_d B n p ≤ 5
    · rw [if_pos c5] at vl
      rw [if_neg (by omega), tx_in, Option.bind_some]
      simp only []
      rw [show min (tx_d B n p) 5 = tx_d B n p by omega] at z9 fr ⊢
      rw [← vl] at z9 fr ⊢
      by_cases c6 : lo ≤ tx_vl B n p ∧ tx_vl B n p ≤ hi
      · rw [if_pos c6, if_neg (by decide)]
        refine ms_t_r ⟨fr, fun _ => ⟨rfl, z9, sd_s_at, ?_⟩, fun w => absurd ⟨c, c6⟩ w⟩
        rw [nx]
        exact tx_rs_c (tx_rs_n h.1 (by omega)) (sd_s_j (by omega)) (sd_s_j (by omega)) (sd_s_a (by omega))
      · rw [if_neg c6, if_pos (by trivial), f117 _ z9]
        exact ms_t_r ⟨tx_rf_tr fr (tx_rf_s (by omega)), fun w => absurd w.2 c6, fun _ => ⟨rfl, by unfold tx_nf; rw [sd_s_at, if_pos c]⟩⟩
    · rw [if_neg c5] at vl
      rw [if_pos (by omega), f117 _ z9]
      exact ms_t_r ⟨tx_rf_tr fr (tx_rf_s (by omega)), fun w => absurd w.2 (by omega), fun _ => ⟨rfl, by unfold tx_nf; rw [sd_s_at, if_pos c]⟩⟩
  · have c1 : ¬ (p < n ∧ 48 ≤ B p ∧ B p ≤ 57) := fun w => c (kd.mp w)
    have f := tx_rfails h92 (p := p) (w := 0) (by omega) (by omega)
    rw [show ((0 : Nat) : Int) = 0 from rfl] at f
    rw [if_pos (by rw [if_neg c1]), f, Option.bind_some]
    simp only []
    rw [if_pos (by trivial)]
    exact ms_t_r ⟨tx_rf_tr (tx_rf_s (by omega)) (tx_rf_s (by omega)), fun w => absurd w.1 c, fun _ => ⟨rfl, by unfold tx_nf; rw [sd_s_at, if_neg c]⟩⟩
