/-! the class cuts its text -/
theorem tx_cutOne {M : sd_M} {B : Nat → Int} {n t p : Nat} (hb : tx_by M B n) (hp : p < n) (ht : t < 401) (h : tx_ct M B n t) (e : tx_pl B n t = p) : ∃ N, f_X7_cutOne (p : Int) M = some ((tx_len B n p : Int), N) ∧ tx_ct N B n (t + 1) ∧ tx_fr M N := by
  have n4 := hb.2.1
  have db := tx_d_b (B := B) (n := n) (p := p)
  have lb := tx_l_b (B := B) (n := n) (p := p)
  obtain ⟨N, eN, cN, fN⟩ := tx_add ht h e
  refine ⟨N, ?_, cN, fN⟩
  have np : ¬ n ≤ p := by omega
  unfold f_X7_cutOne
  rw [tx_runOf hb (by omega) (by omega) (by omega), Option.bind_some]
  simp only []
  change (if ((tx_d B n p : Nat) : Int) ≤ 0 then _ else _) = _
  by_cases c1 : 0 < tx_d B n p
  · rw [if_neg (by omega)]
    have q := tx_numberAt hb (p := p) (d := tx_d B n p) (by omega) (fun s hs => tx_run_in _ _ s hs)
    have k : tx_kd B n p = 513 := by
      unfold tx_kd
      rw [if_neg np, if_pos c1]
    have v : tx_vl B n p = if tx_d B n p ≤ 5 then tx_nm B p (tx_d B n p) else -1 := by
      unfold tx_vl
      rw [if_neg np, if_pos c1]
    have l : tx_len B n p = tx_d B n p := by
      unfold tx_len
      rw [if_pos c1]
    rw [k, v] at eN
    change ((f_X7_numberAt (p : Int) ((tx_d B n p : Nat) : Int) M).bind _) = _
    rw [q, Option.bind_some]
    simp only []
    rw [eN, Option.bind_some, l]
    rfl
  · rw [if_pos (by omega), tx_runOf hb (by omega) (by omega) (by omega), Option.bind_some]
    simp only []
    change (if ((tx_l B n p : Nat) : Int) ≤ 0 then _ else _) = _
    have v : tx_vl B n p = 0 := by
      unfold tx_vl
      rw [if_neg np, if_neg c1]
    by_cases c2 : 0 < tx_l B n p
    · rw [if_neg (by omega)]
      have k : tx_kd B n p = ((600 + tx_wn B p (tx_l B n p) tx_ws 0 : Nat) : Int) := by
        unfold tx_kd
        rw [if_neg np, if_neg c1, if_pos c2]
      have l : tx_len B n p = tx_l B n p := by
        unfold tx_len
        rw [if_neg c1, if_pos c2]
      rw [k, v] at eN
      change ((f_X7_wordAt (p : Int) ((tx_l B n p : Nat) : Int) M).bind _) = _
      rw [tx_wordAt hb (by omega), Option.bind_some]
      simp only []
      have wb : ∀ (ws : List (List Int)) (j : Nat), tx_wn B p (tx_l B n p) ws j ≤ 99 + j + ws.length := by
        intro ws
        induction ws with
        | nil => intro j; rw [tx_wn]; omega
        | cons w ws ih =>
          intro j
          have := ih (j + 1)
          rw [tx_wn, List.length_cons]
          split <;> omega
      have w1 := wb tx_ws 0
      have w2 : tx_ws.length = 17 := rfl
      rw [sd_wid (by omega) (by omega)]
      have e6 : ((600 + tx_wn B p (tx_l B n p) tx_ws 0 : Nat) : Int) = 600 + ((tx_wn B p (tx_l B n p) tx_ws 0 : Nat) : Int) := by omega
      rw [e6] at eN
      rw [eN, Option.bind_some, l]
      rfl
    · rw [if_pos (by omega), tx_byteAt hb hp, Option.bind_some]
      simp only []
      have bb := (hb.2.2 p hp).2
      have u := tx_ub_c (B p)
      have k : tx_kd B n p = if tx_oq B n p = true then tx_ub (B p) + 256 else tx_ub (B p) := by
        unfold tx_kd
        rw [if_neg np, if_neg c1, if_neg c2]
      have l : tx_len B n p = if tx_oq B n p = true then 2 else 1 := by
        unfold tx_len
        rw [if_neg c1, if_neg c2]
      rw [k, v] at eN
      rw [l]
      have k99 : tx_oq B n p = false → f_X7_cutOne_99 (p : Int) (tx_ub (B p)) M = some (((if tx_oq B n p = true then 2 else 1 : Nat) : Int), N) := by
        intro o
        rw [o, if_neg (by decide)] at eN
        unfold f_X7_cutOne_99 f_X7_cutOne_100
        rw [if_pos rfl]
        unfold f_X7_cutOne_119
        rw [eN, Option.bind_some, if_pos rfl, o]
        rfl
      have k83 : (B p = 60 ∨ B p = 62) → f_X7_cutOne_83 (p : Int) (tx_ub (B p)) M = some (((if tx_oq B n p = true then 2 else 1 : Nat) : Int), N) := by
        intro o
        have oo : (decide (B p = 60) || decide (B p = 62)) = true := by
          rcases o with o | o <;> simp [o]
        have n100 : tx_oq B n p = true → f_X7_cutOne_100 (p : Int) (tx_ub (B p)) 1 M = some (((if tx_oq B n p = true then 2 else 1 : Nat) : Int), N) := by
          intro o
          rw [o, if_pos rfl] at eN
          unfold f_X7_cutOne_100
          rw [if_neg (by decide)]
          unfold f_X7_cutOne_119
          rw [sd_wid (by omega) (by omega), eN, Option.bind_some, if_neg (by decide), o]
          rfl
        unfold f_X7_cutOne_83
        rw [sd_wid (by omega) (by omega), show (p : Int) + 1 = ((p + 1 : Nat) : Int) from rfl]
        by_cases c3 : p + 1 < n
        · have b2 := (hb.2.2 (p + 1) c3).2
          have u2 := tx_ub_c (B (p + 1))
          rw [tx_byteAt hb c3, Option.bind_some]
          simp only []
          by_cases c4 : B (p + 1) = 61
          · have o2 : tx_oq B n p = true := by
              unfold tx_oq
              rw [oo, decide_eq_true c3, decide_eq_true c4]
              rfl
            rw [if_pos (by omega)]
            exact n100 o2
          · have o2 : tx_oq B n p = false := by
              unfold tx_oq
              rw [decide_eq_false c4, Bool.and_false]
            rw [if_neg (by omega)]
            exact k99 o2
        · have o2 : tx_oq B n p = false := by
            unfold tx_oq
            rw [decide_eq_false c3, Bool.and_false, Bool.false_and]
          rw [tx_byteEnd hb (by omega), Option.bind_some]
          simp only []
          rw [if_neg (by decide)]
          exact k99 o2
      by_cases c3 : tx_ub (B p) = 60
      · rw [if_pos c3]
        exact k83 (by omega)
      · rw [if_neg c3]
        by_cases c4 : tx_ub (B p) = 62
        · rw [if_pos c4]
          exact k83 (by omega)
        · rw [if_neg c4]
          refine k99 ?_
          unfold tx_oq
          rw [decide_eq_false (show ¬ B p = 60 by omega), decide_eq_false (show ¬ B p = 62 by omega)]
          rfl
theorem tx_cut_l {M0 : sd_M} {B : Nat → Int} {n : Nat} (hb : tx_by M0 B n) : ∀ (m p t k fu : Nat) (M : sd_M), p + m = n → t ≤ p → k ≤ p → m < fu → tx_pl B n t = tx_s B n p → (∀ i, i < t → tx_pl B n i < n) → tx_ct M B n t → tx_fr M0 M → ∃ (T : Nat) (N : sd_M), f_X7_cut_19 f_X7_cut_62 fu (p : Int) (k : Int) M = some (0, N) ∧ T ≤ 400 ∧ tx_ct N B n (T + 1) ∧ tx_pl B n T = n ∧ (∀ i, i < T → tx_pl B n i < n) ∧ tx_fr M0 N := by
  have n4 := hb.2.1
  intro m
  induction m using Nat.strongRecOn with
  | ind m ih =>
    intro p t k fu M hp htp hkp hf e lt ct fr
    obtain ⟨fu, rfl⟩ : ∃ g, fu = g + 1 := ⟨fu - 1, by omega⟩
    have by1 := tx_fr_by hb fr
    by_cases c : m = 0
    · have e2 : tx_pl B n t = n := by rw [e, tx_s_e (by omega)]; omega
      obtain ⟨N, eN, cN, fN⟩ := tx_add (M := M) (p := n) (by omega) ct e2
      rw [show tx_kd B n n = 512 by unfold tx_kd; rw [if_pos (Nat.le_refl _)], show tx_vl B n n = 0 by unfold tx_vl; rw [if_pos (Nat.le_refl _)]] at eN
      refine ⟨t, N, ?_, by omega, cN, e2, lt, tx_fr_tr fr fN⟩
      have k62 : f_X7_cut_62 M = some (0, N) := by
        unfold f_X7_cut_62
        rw [by1.1, eN, Option.bind_some]
      rw [f_X7_cut_19]
      by_cases c2 : 400 ≤ (k : Int)
      · rw [if_pos c2]
        exact k62
      · rw [if_neg c2, if_pos (by rw [by1.1]; omega)]
        exact k62
    · have u := tx_ub_c (B p)
      have bb := (hb.2.2 p (by omega)).2
      rw [f_X7_cut_19, if_neg (by omega), if_neg (by rw [by1.1]; omega), tx_byteAt by1 (by omega), Option.bind_some]
      simp only []
      by_cases c2 : B p = 32
      · rw [if_pos (by omega)]
        unfold f_X7_cut_54
        rw [sd_wid (by omega) (by omega), sd_wid (by omega) (by omega)]
        exact ih (m - 1) (by omega) (p + 1) t (k + 1) fu M (by omega) (by omega) (by omega) (by omega) (by rw [e, tx_s_sp (by omega) c2]) lt ct fr
      · have e2 : tx_pl B n t = p := by rw [e, tx_s_ns c2]
        obtain ⟨N, eN, cN, fN⟩ := tx_cutOne by1 (by omega) (by omega) ct e2
        have lb := tx_len_b (B := B) (n := n) (p := p) (by omega)
        rw [if_neg (by omega), eN, Option.bind_some]
        simp only []
        unfold f_X7_cut_54
        rw [sd_wid (by omega) (by omega), sd_wid (by omega) (by omega)]
        refine ih (n - (p + tx_len B n p)) (by omega) (p + tx_len B n p) (t + 1) (k + 1) fu N (by omega) (by omega) (by omega) (by omega) ?_ (fun i hi => ?_) cN (tx_fr_tr fr fN)
        · rw [tx_pl, e2, tx_nx, if_neg (by omega)]
        · by_cases c3 : i = t
          · rw [c3, e2]
            omega
          · exact lt i (by omega)
/-- the text is cut, the token at p is next -/
def tx_cs (M : sd_M) (B : Nat → Int) (n p : Nat) : Prop := ∃ T i : Nat, (T ≤ 400 ∧ i ≤ T ∧ M 1 4 = (i : Int) ∧ tx_pl B n i = p) ∧ tx_ct M B n (T + 1) ∧ tx_pl B n T = n ∧ (∀ i, i < T → tx_pl B n i < n) ∧ n ≤ 400
theorem tx_cut {M : sd_M} {B : Nat → Int} {n : Nat} (hb : tx_by M B n) : ∃ N, f_X7_cut M = some (0, N) ∧ tx_cs N B n (tx_s B n 0) ∧ N 1 2 = 0 ∧ (∀ a, a ≠ 1 → a ≠ 3 → a ≠ 4 → a ≠ 5 → N a = M a) ∧ N 1 1 = M 1 1 := by
  have hb2 : tx_by (sd_s (sd_s (sd_s M 1 3 0) 1 4 0) 1 2 0) B n := tx_by_c hb (by rw [sd_s_j (by omega), sd_s_j (by omega), sd_s_j (by omega)]) (by rw [sd_s_a (by omega), sd_s_a (by omega), sd_s_a (by omega)])
  have n4 := hb.2.1
  obtain ⟨T, N, eN, hT, ct, eT, lt, fr⟩ := tx_cut_l hb2 n 0 0 0 4000 (sd_s (sd_s (sd_s M 1 3 0) 1 4 0) 1 2 0) (by omega) (by omega) (by omega) (by omega) rfl (fun i hi => absurd hi (Nat.not_lt_zero _)) ⟨by rw [sd_s_j (by omega), sd_s_j (by omega), sd_s_at]; rfl, fun i hi => absurd hi (Nat.not_lt_zero _)⟩ tx_fr_rf
  refine ⟨N, eN, ⟨T, 0, ⟨hT, by omega, ?_, rfl⟩, ct, eT, lt, n4⟩, ?_, fun a x y z w => ?_, ?_⟩
  · rw [fr.2 4 (by omega), sd_s_j (by omega), sd_s_at]
    rfl
  · rw [fr.2 2 (by omega), sd_s_at]
  · rw [fr.1 a x y z w, sd_s_a x, sd_s_a x, sd_s_a x]
  · rw [fr.2 1 (by omega), sd_s_j (by omega), sd_s_j (by omega), sd_s_j (by omega)]
theorem tx_kind {M : sd_M} {B : Nat → Int} {n p : Nat} (h : tx_cs M B n p) : f_X7_kind M = some (tx_kd B n p, M) := by
  obtain ⟨T, i, ⟨h1, h2, h3, h4⟩, ct, eT, lt, n4⟩ := h
  unfold f_X7_kind
  rw [ct.1, h3, if_neg (by omega), if_pos (by omega), Int.toNat_natCast, (ct.2 i (by omega)).1, h4]
theorem tx_value {M : sd_M} {B : Nat → Int} {n p : Nat} (h : tx_cs M B n p) : f_X7_value M = some (tx_vl B n p, M) := by
  obtain ⟨T, i, ⟨h1, h2, h3, h4⟩, ct, eT, lt, n4⟩ := h
  unfold f_X7_value
  rw [ct.1, h3, if_neg (by omega), if_pos (by omega), Int.toNat_natCast, (ct.2 i (by omega)).2.2, h4]
theorem tx_pl_n {B : Nat → Int} {n : Nat} : ∀ i, tx_pl B n i ≤ n
  | 0 => (tx_s_b (Nat.zero_le n)).2
  | i + 1 => by
    have q := tx_pl_n (B := B) (n := n) i
    rw [tx_pl]
    unfold tx_nx
    split
    · exact q
    · exact (tx_s_b (tx_len_b (by omega)).2).2
theorem tx_cs_n {M : sd_M} {B : Nat → Int} {n p : Nat} (h : tx_cs M B n p) : p ≤ n ∧ n ≤ 400 ∧ (p < n → B p ≠ 32) := by
  obtain ⟨T, i, ⟨h1, h2, h3, h4⟩, ct, eT, lt, n4⟩ := h
  refine ⟨h4 ▸ tx_pl_n i, n4, fun c => ?_⟩
  subst h4
  cases i with
  | zero => exact tx_s_n (Nat.zero_le n) c
  | succ i =>
    have q := tx_pl_n (B := B) (n := n) i
    rw [tx_pl] at c ⊢
    unfold tx_nx at c ⊢
    have l := lt i (by omega)
    rw [if_neg (by omega)] at c ⊢
    exact tx_s_n (tx_len_b (by omega)).2 c
/-- on to the next token -/
theorem tx_step {M : sd_M} {B : Nat → Int} {n p : Nat} (h : tx_cs M B n p) : ∃ N, f_X7_step M = some (0, N) ∧ tx_cs N B n (tx_nx B n p) ∧ (∀ a, a ≠ 1 → N a = M a) ∧ ∀ j, j ≠ 4 → N 1 j = M 1 j := by
  obtain ⟨T, i, ⟨h1, h2, h3, h4⟩, ct, eT, lt, n4⟩ := h
  unfold f_X7_step
  rw [ct.1, h3, sd_wid (by omega) (by omega)]
  by_cases c : i = T
  · refine ⟨M, by rw [if_pos (by omega)], ⟨T, i, ⟨h1, h2, h3, ?_⟩, ct, eT, lt, n4⟩, fun _ _ => rfl, fun _ _ => rfl⟩
    have : p = n := by rw [← h4, c, eT]
    unfold tx_nx
    rw [if_pos (by omega)]
    exact h4
  · refine ⟨_, by rw [if_neg (by omega)], ⟨T, i + 1, ⟨h1, by omega, ?_, ?_⟩, ⟨?_, fun j hj => ?_⟩, eT, lt, n4⟩, fun a ha => sd_s_a ha, fun j hj => sd_s_j hj⟩
    · rw [sd_s_at, sd_wid (by omega) (by omega)]
      rfl
    · rw [tx_pl, h4]
    · rw [sd_s_j (by omega)]
      exact ct.1
    · rw [sd_s_a (by omega), sd_s_a (by omega), sd_s_a (by omega)]
      exact ct.2 j hj
theorem tx_fails {M : sd_M} {B : Nat → Int} {n p : Nat} (h : tx_cs M B n p) {w : Nat} (hw : w < 8) : f_X7_fails (w : Int) M = some (0, sd_s M 1 2 ((1 + 8 * p + w : Nat) : Int)) := by
  have pn := tx_cs_n h
  obtain ⟨T, i, ⟨h1, h2, h3, h4⟩, ct, eT, lt, n4⟩ := h
  unfold f_X7_fails
  rw [ct.1, h3, if_neg (by omega), if_pos (by omega), Int.toNat_natCast, (ct.2 i (by omega)).2.1, h4, sd_wid (z := 8 * (p : Int)) (by omega) (by omega), sd_wid (z := 1 + 8 * (p : Int)) (by omega) (by omega), sd_wid (z := 1 + 8 * (p : Int) + (w : Int)) (by omega) (by omega)]
  rfl
/-- the class reads on elsewhere -/
theorem tx_cs_c {M N : sd_M} {B : Nat → Int} {n p : Nat} (h : tx_cs M B n p) (e1 : ∀ j, j = 3 ∨ j = 4 → N 1 j = M 1 j) (e3 : N 3 = M 3) (e4 : N 4 = M 4) (e5 : N 5 = M 5) : tx_cs N B n p := by
  obtain ⟨T, i, ⟨h1, h2, h3, h4⟩, ct, eT, lt, n4⟩ := h
  exact ⟨T, i, ⟨h1, h2, (e1 4 (by omega)).trans h3, h4⟩, ⟨(e1 3 (by omega)).trans ct.1, fun j hj => by rw [e3, e4, e5]; exact ct.2 j hj⟩, eT, lt, n4⟩
