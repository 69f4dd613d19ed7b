/-! the reference: places, needs, going out -/
def ms_fi (S : Nat → Int) (f : Int) : Nat → Nat
  | 0 => 0
  | k + 1 => if S (89 + k) = f then k else ms_fi S f k
def ms_po (S : Nat → Int) (f : Int) : Nat := ms_fi S f (S 60).toNat
theorem ms_fi_e {S : Nat → Int} {f : Int} {k : Nat} (h : S (89 + k) = f) : ∀ n, (∀ j, j < n → S (89 + j) = f → j = k) → k < n → ms_fi S f n = k
  | 0, _, hk => absurd hk (by omega)
  | n + 1, hu, hk => by
    rw [ms_fi]
    split
    · rename_i hc
      exact hu n (by omega) hc
    · rename_i hc
      refine ms_fi_e h n (fun j hj => hu j (by omega)) ?_
      by_cases e : k = n
      · subst e; exact absurd h hc
      · omega
theorem ms_po_e {S : Nat → Int} (h : ms_ok S) {f : Int} {k : Nat} (hk : (k : Int) < S 60) (hf : S (89 + k) = f) : ms_po S f = k := by
  obtain ⟨t, h1, h2, h3, h4, h5, h6, h7⟩ := h
  exact ms_fi_e hf _ (fun j hj e => h6 j k (by omega) hk (by rw [e, hf])) (by omega)
theorem ms_po_l {S : Nat → Int} (h : ms_ok S) {f : Int} (hf : (0 ≤ f ∧ f < S 2) ∧ S (71 + f.toNat) = 1) : ((ms_po S f : Nat) : Int) < S 60 ∧ S (89 + ms_po S f) = f := by
  obtain ⟨k, hk, e⟩ := h.2.2.2.2.2.2.2 f.toNat (by omega) hf.2
  rw [Int.toNat_of_nonneg hf.1.1] at e
  rw [ms_po_e h hk e]
  exact ⟨hk, e⟩
/-- what an offer has signed -/
def ms_sg (S : Nat → Int) (f : Int) : Int := if (0 ≤ f ∧ f < S 2) ∧ S (71 + f.toNat) = 1 then ms_sk S (ms_po S f) else 0
def ms_hd (S : Nat → Int) (k : Nat) : Bool := if S (23 + 3 * k) = 0 then decide (S (24 + 3 * k) ≤ ms_pl S) else if S (23 + 3 * k) = 1 then decide ((0 ≤ S (24 + 3 * k) ∧ S (24 + 3 * k) < S 2) ∧ S (71 + (S (24 + 3 * k)).toNat) = 1) else if S (23 + 3 * k) = 2 then decide (S (24 + 3 * k) ≤ ms_sg S (S (22 + 3 * k))) else if S (23 + 3 * k) = 3 then decide (S 60 ≤ S (24 + 3 * k)) else if S (23 + 3 * k) = 4 then decide (ms_sh S ≤ S (24 + 3 * k)) else decide (S 58 ≤ S (24 + 3 * k))
def ms_hk (S : Nat → Int) (f : Int) : Nat → Bool
  | 0 => true
  | k + 1 => ms_hk S f k && (!(decide (S (22 + 3 * k) = f)) || ms_hd S k)
def ms_ha (S : Nat → Int) (f : Int) : Bool := ms_hk S f (S 3).toNat
theorem rf_placeOf_l {M : sd_M} (h : ms_ok (M 341)) {f : Int} {p : Nat} (hp : (p : Int) < M 341 60) (hf : M 341 (89 + p) = f) : ∀ (m k fu : Nat), k + m = p → m < fu → f_X10_placeOf_2 fu f (k : Int) M = some ((p : Int), M) := by
  have l := ms_lines h
  intro m
  induction m with
  | zero =>
    intro k fu hk hfu
    obtain ⟨fu, rfl⟩ : ∃ g, fu = g + 1 := ⟨fu - 1, by omega⟩
    obtain rfl : k = p := by omega
    rw [f_X10_placeOf_2, sd_wid (by omega) (by omega), if_pos (by omega), sd_tn89 (by omega), Int.toNat_natCast, if_pos hf]
  | succ m ih =>
    intro k fu hk hfu
    obtain ⟨fu, rfl⟩ : ∃ g, fu = g + 1 := ⟨fu - 1, by omega⟩
    have e := ih (k + 1) fu (by omega) (by omega)
    push_cast at e
    have ne : ¬ M 341 (89 + k) = f := fun e => by
      have := h.2.2.2.2.2.2.1 k p (by omega) hp (by rw [e, hf])
      omega
    rw [f_X10_placeOf_2, sd_wid (z := 89 + (k : Int)) (by omega) (by omega), if_pos (by omega), sd_tn89 (by omega), Int.toNat_natCast, if_neg ne, sd_wid (by omega) (by omega)]
    exact e
theorem rf_placeOf {M : sd_M} (h : ms_ok (M 341)) {f : Int} {p : Nat} (hp : (p : Int) < M 341 60) (hf : M 341 (89 + p) = f) : f_X10_placeOf f M = some ((p : Int), M) := by
  have l := ms_lines h
  exact rf_placeOf_l h hp hf p 0 4000 (by omega) (by omega)
theorem rf_signedOf {M : sd_M} (h : ms_ok (M 341)) (f : Int) : ms_T (f_X10_signedOf f M) (fun r N => r = ms_sg (M 341) f ∧ rf_f M N) := by
  have l := ms_lines h
  unfold f_X10_signedOf ms_sg
  rw [rf_isLine h]
  simp only [Option.bind_some]
  by_cases c : (0 ≤ f ∧ f < M 341 2) ∧ M 341 (71 + f.toNat) = 1
  · rw [if_pos c, if_neg (by omega), if_pos c]
    obtain ⟨p1, p2⟩ := ms_po_l h c
    refine ms_t_b (rf_signs h) (fun r N hN => ?_)
    have e := rf_f_41 hN.1
    simp only []
    rw [rf_placeOf (M := N) (by rw [e]; exact h) (p := ms_po (M 341) f) (by rw [e]; exact p1) (by rw [e]; exact p2)]
    simp only [Option.bind_some]
    rw [if_pos (by omega), Int.toNat_natCast]
    exact ms_t_r ⟨hN.2 _ p1, hN.1⟩
  · rw [if_neg c, if_pos rfl, if_neg c]
    exact ms_t_r ⟨rfl, rf_f_rf⟩
theorem ms_p12 {S : Nat → Int} (h : ms_ok S) {k : Nat} (hk : (k : Int) < S 3) : k < 12 ∧ (0 ≤ S (22 + 3 * k) ∧ S (22 + 3 * k) < S 2) ∧ (0 ≤ S (23 + 3 * k) ∧ S (23 + 3 * k) ≤ 5) ∧ (0 ≤ S (24 + 3 * k) ∧ S (24 + 3 * k) ≤ 999) := by
  obtain ⟨⟨t0, t2, t3, tf, tk, t4⟩, h1⟩ := h
  exact ⟨by omega, tk k hk⟩
theorem sd_t24 {k : Nat} : (22 + 3 * (k : Int) + 2).toNat = 24 + 3 * k := by omega
theorem sd_t23 {k : Nat} : (22 + 3 * (k : Int) + 1).toNat = 23 + 3 * k := by omega
theorem sd_t22 {k : Nat} : (22 + 3 * (k : Int)).toNat = 22 + 3 * k := by omega
theorem rf_holds {M : sd_M} (h : ms_ok (M 341)) {k : Nat} (hk : (k : Int) < M 341 3) : ms_T (f_X10_holds (k : Int) M) (fun r N => r = (if ms_hd (M 341) k = true then 1 else 0) ∧ rf_f M N) := by
  have l := ms_lines h
  have p := ms_p12 h hk
  have ye : ∀ {c : Prop} [Decidable c] {N : sd_M}, c → rf_f M N → ms_T (some ((1 : Int), N)) (fun r N => r = (if decide c = true then 1 else 0) ∧ rf_f M N) := fun hc hN => ms_t_r ⟨by rw [if_pos (decide_eq_true hc)], hN⟩
  have no : ∀ {c : Prop} [Decidable c] {N : sd_M}, ¬ c → rf_f M N → ms_T (some ((0 : Int), N)) (fun r N => r = (if decide c = true then 1 else 0) ∧ rf_f M N) := fun hc hN => ms_t_r ⟨by rw [if_neg (by simpa using hc)], hN⟩
  unfold f_X10_holds ms_hd
  rw [sd_wid (z := 3 * (k : Int)) (by omega) (by omega), sd_wid (z := 22 + 3 * (k : Int)) (by omega) (by omega), sd_wid (z := 22 + 3 * (k : Int) + 2) (by omega) (by omega), sd_wid (z := 22 + 3 * (k : Int) + 1) (by omega) (by omega), sd_t22, sd_t23, sd_t24, if_pos (by omega), if_pos (by omega), if_pos (by omega)]
  by_cases c0 : M 341 (23 + 3 * k) = 0
  · rw [if_pos c0, if_pos c0, rf_placed h]
    simp only [Option.bind_some]
    split
    · exact no (by omega) rf_f_rf
    · exact ye (by omega) rf_f_rf
  rw [if_neg c0, if_neg c0]
  by_cases c1 : M 341 (23 + 3 * k) = 1
  · rw [if_pos c1, if_pos c1, rf_isLine h]
    simp only [Option.bind_some]
    split
    · rename_i hc
      split
      · exact ye hc rf_f_rf
      · exact absurd (Or.inr rfl) ‹_›
    · rename_i hc
      split
      · exact no hc rf_f_rf
      · exact absurd (Or.inl rfl) ‹_›
  rw [if_neg c1, if_neg c1]
  by_cases c2 : M 341 (23 + 3 * k) = 2
  · rw [if_pos c2, if_pos c2]
    refine ms_t_b (rf_signedOf h _) (fun r N hN => ?_)
    simp only []
    rw [hN.1]
    split
    · exact no (by omega) hN.2
    · exact ye (by omega) hN.2
  rw [if_neg c2, if_neg c2]
  by_cases c3 : M 341 (23 + 3 * k) = 3
  · rw [if_pos c3, if_pos c3]
    split
    · exact no (by omega) rf_f_rf
    · exact ye (by omega) rf_f_rf
  rw [if_neg c3, if_neg c3]
  by_cases c4 : M 341 (23 + 3 * k) = 4
  · rw [if_pos c4, if_pos c4, rf_shortNow h]
    simp only [Option.bind_some]
    split
    · exact no (by omega) rf_f_rf
    · exact ye (by omega) rf_f_rf
  rw [if_neg c4, if_neg c4]
  split
  · exact no (by omega) rf_f_rf
  · exact ye (by omega) rf_f_rf
theorem ms_hk_f {S : Nat → Int} {f : Int} {k : Nat} (h : ms_hk S f (k + 1) = false) : ∀ m, ms_hk S f (k + 1 + m) = false
  | 0 => h
  | m + 1 => by rw [← Nat.add_assoc, ms_hk, ms_hk_f h m, Bool.false_and]
theorem rf_hasAll_l {M0 : sd_M} (h : ms_ok (M0 341)) {f : Int} : ∀ (m k fu : Nat) (M : sd_M), (k : Int) + m = M0 341 3 → m < fu → rf_f M0 M → ms_hk (M0 341) f k = true → ms_T (f_X10_hasAll_2 fu f (k : Int) M) (fun r N => r = (if ms_ha (M0 341) f = true then 1 else 0) ∧ rf_f M0 N) := by
  have l := ms_lines h
  intro m
  induction m with
  | zero =>
    intro k fu M hk hf hM hh
    obtain ⟨fu, rfl⟩ : ∃ g, fu = g + 1 := ⟨fu - 1, by omega⟩
    rw [f_X10_hasAll_2, rf_f_41 hM, if_pos (by omega)]
    refine ms_t_r ⟨?_, hM⟩
    unfold ms_ha
    rw [show (M0 341 3).toNat = k by omega, if_pos hh]
  | succ m ih =>
    intro k fu M hk hf hM hh
    obtain ⟨fu, rfl⟩ : ∃ g, fu = g + 1 := ⟨fu - 1, by omega⟩
    have e := rf_f_41 hM
    have p := ms_p12 h (k := k) (by omega)
    have up := ih (k + 1) fu
    push_cast at up
    rw [ms_hk, hh, Bool.true_and] at up
    rw [f_X10_hasAll_2, e, sd_wid (z := 3 * (k : Int)) (by omega) (by omega), sd_wid (z := 22 + 3 * (k : Int)) (by omega) (by omega), sd_t22, if_neg (by omega), if_pos (by omega)]
    split
    · rename_i hc
      refine ms_t_b (rf_holds (M := M) (by rw [e]; exact h) (k := k) (by rw [e]; omega)) (fun r N hN => ?_)
      rw [e] at hN
      simp only []
      rw [hN.1]
      by_cases hd : ms_hd (M0 341) k = true
      · rw [if_pos hd, if_neg (by omega), f_X10_hasAll_37, sd_wid (by omega) (by omega)]
        exact up N (by omega) (by omega) (rf_f_tr hM hN.2) (by rw [hd, Bool.or_true])
      · rw [if_neg hd, if_pos rfl]
        refine ms_t_r ⟨?_, rf_f_tr hM hN.2⟩
        have q : ms_hk (M0 341) f (k + 1) = false := by
          rw [ms_hk, hh]
          simp [hc, hd]
        have q2 := ms_hk_f q m
        unfold ms_ha
        rw [show (M0 341 3).toNat = k + 1 + m by omega, q2, if_neg (by decide)]
    · rename_i hc
      rw [f_X10_hasAll_37, sd_wid (by omega) (by omega)]
      exact up M (by omega) (by omega) hM (by simp [hc])
theorem rf_hasAll {M : sd_M} (h : ms_ok (M 341)) (f : Int) : ms_T (f_X10_hasAll f M) (fun r N => r = (if ms_ha (M 341) f = true then 1 else 0) ∧ rf_f M N) := by
  have l := h.1.2.2.1
  exact rf_hasAll_l h (M 341 3).toNat 0 4000 M (by omega) (by omega) rf_f_rf rfl
