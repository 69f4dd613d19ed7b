/-! THE MATHEMATICS. Its base: no overflow, cells read behind writes, the said row -/
theorem sd_wid {z : Int} (h1 : -2147483648 ≤ z) (h2 : z < 2147483648) : sd_w z = z := by
  unfold sd_w
  exact Int.bmod_eq_of_le (by omega) (by omega)
theorem sd_wn {n : Nat} (h : n < 2147483648) : sd_w (n : Int) = (n : Int) := sd_wid (by omega) (by omega)
theorem sd_s_at (M : sd_M) (a i : Nat) (v : Int) : sd_s M a i v a i = v := by simp [sd_s]
theorem sd_s_a {M : sd_M} {a b i j : Nat} {v : Int} (h : b ≠ a) : sd_s M a i v b j = M b j := by simp [sd_s, h]
theorem sd_s_j {M : sd_M} {a i j : Nat} {v : Int} (h : j ≠ i) : sd_s M a i v a j = M a j := by simp [sd_s, h]
/-- only the cells of P have changed -/
def sd_fr (P : Nat → Prop) (M N : sd_M) : Prop := ∀ a, ¬ P a → N a = M a
theorem sd_fr_rf {P : Nat → Prop} {M : sd_M} : sd_fr P M M := fun _ _ => rfl
theorem sd_fr_tr {P : Nat → Prop} {M N K : sd_M} (h : sd_fr P M N) (h2 : sd_fr P N K) : sd_fr P M K := fun a ha => (h2 a ha).trans (h a ha)
theorem sd_fr_w {P Q : Nat → Prop} {M N : sd_M} (h : sd_fr P M N) (hPQ : ∀ a, P a → Q a) : sd_fr Q M N := fun a ha => h a (fun hp => ha (hPQ a hp))
theorem sd_fr_s {P : Nat → Prop} {M : sd_M} {a i : Nat} {v : Int} (h : P a) : sd_fr P M (sd_s M a i v) := fun b hb => sd_s_ne b (fun e => hb (e ▸ h))
/-- sums along the lines -/
def ms_plk (S : Nat → Int) : Nat → Int
  | 0 => 0
  | k + 1 => ms_plk S k + S (62 + (S (89 + k)).toNat)
def ms_pl (S : Nat → Int) : Int := ms_plk S (S 60).toNat
/-- the row of numbers that a slip and its state are: what always holds of it -/
def ms_ok (S : Nat → Int) : Prop := (0 ≤ S 2 ∧ S 2 ≤ 9) ∧ (0 ≤ S 3 ∧ S 3 ≤ 12) ∧ (0 ≤ S 60 ∧ 0 ≤ S 61 ∧ S 60 + S 61 ≤ S 2) ∧ (0 ≤ S 59 ∧ S 59 ≤ 999) ∧ (0 ≤ S 58 ∧ S 58 ≤ 2000) ∧ (∀ f : Nat, (f : Int) < S 2 → 1 ≤ S (62 + f) ∧ S (62 + f) ≤ 999) ∧ (∀ k : Nat, (k : Int) < S 60 → 0 ≤ S (89 + k) ∧ S (89 + k) < S 2)
theorem ms_plk_le {S : Nat → Int} (h : ms_ok S) : ∀ k : Nat, (k : Int) ≤ S 60 → 0 ≤ ms_plk S k ∧ ms_plk S k ≤ 999 * k := by
  obtain ⟨h1, h2, h3, h4, h5, h6, h7⟩ := h
  intro k
  induction k with
  | zero => intro _; exact ⟨Int.le_refl _, Int.le_refl _⟩
  | succ k ih =>
    intro hk
    have i := ih (by omega)
    have a := h7 k (by omega)
    have b := h6 (S (89 + k)).toNat (by omega)
    unfold ms_plk
    constructor <;> omega
theorem rf_placed_l {M : sd_M} (h : ms_ok (M 341)) {n : Nat} (hn : M 341 60 = (n : Int)) : ∀ (m k fu : Nat), k + m = n → m < fu → f_X10_placed_4 fu (ms_plk (M 341) k) (k : Int) M = some (ms_plk (M 341) n, M) := by
  obtain ⟨h1, h2, h3, h4, h5, h6, h7⟩ := id h
  intro m
  induction m with
  | zero =>
    intro k fu hk hf
    obtain ⟨fu, rfl⟩ : ∃ g, fu = g + 1 := ⟨fu - 1, by omega⟩
    have hk : k = n := by omega
    subst hk
    rw [f_X10_placed_4, if_pos (by omega)]
  | succ m ih =>
    intro k fu hk hf
    obtain ⟨fu, rfl⟩ : ∃ g, fu = g + 1 := ⟨fu - 1, by omega⟩
    have a := h7 k (by omega)
    have b := h6 (M 341 (89 + k)).toNat (by omega)
    have pk := ms_plk_le h k (by omega)
    have e1 : sd_w (89 + (k : Int)) = ((89 + k : Nat) : Int) := by rw [sd_wid (by omega) (by omega)]; omega
    have e2 : sd_w (62 + M 341 (89 + k)) = ((62 + (M 341 (89 + k)).toNat : Nat) : Int) := by rw [sd_wid (by omega) (by omega)]; omega
    have e3 : sd_w (ms_plk (M 341) k + M 341 (62 + (M 341 (89 + k)).toNat)) = ms_plk (M 341) (k + 1) := by
      rw [sd_wid (by omega) (by omega)]; rfl
    have e4 : sd_w ((k : Int) + 1) = ((k + 1 : Nat) : Int) := by rw [sd_wid (by omega) (by omega)]; omega
    rw [f_X10_placed_4, if_neg (by omega), e1]
    simp only [Int.toNat_natCast]
    rw [if_pos (by omega), e2]
    simp only [Int.toNat_natCast]
    rw [if_pos (by omega), e3, e4]
    exact ih (k + 1) fu (by omega) (by omega)
theorem rf_placed {M : sd_M} (h : ms_ok (M 341)) : f_X10_placed M = some (ms_pl (M 341), M) := by
  obtain ⟨h1, h2, h3, h4, h5, h6, h7⟩ := id h
  unfold f_X10_placed ms_pl
  exact rf_placed_l h (n := (M 341 60).toNat) (by omega) (M 341 60).toNat 0 4000 (by omega) (by omega)
