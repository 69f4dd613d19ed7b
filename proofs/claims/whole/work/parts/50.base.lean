/-! THE MATHEMATICS. Its base: no overflow, cells read behind writes, what a run answers -/
theorem sd_wid {z : Int} (h1 : -2147483648 ≤ z) (h2 : z < 2147483648) : sd_w z = z := by
  unfold sd_w
  exact Int.bmod_eq_of_le (by omega) (by omega)
theorem sd_s_at {M : sd_M} {a i : Nat} {v : Int} : sd_s M a i v a i = v := by simp [sd_s]
theorem sd_s_a {M : sd_M} {a b i : Nat} {v : Int} (h : b ≠ a) : sd_s M a i v b = M b := sd_s_ne b h
theorem sd_s_j {M : sd_M} {a i j : Nat} {v : Int} (h : j ≠ i) : sd_s M a i v a j = M a j := by simp [sd_s, h]
/-- a row of numbers, one changed -/
def ms_u (S : Nat → Int) (i : Nat) (v : Int) : Nat → Int := fun j => if j = i then v else S j
theorem ms_u_at {S : Nat → Int} {i : Nat} {v : Int} : ms_u S i v i = v := by simp [ms_u]
theorem ms_u_ne {S : Nat → Int} {i j : Nat} {v : Int} (h : j ≠ i) : ms_u S i v j = S j := by simp [ms_u, h]
theorem sd_s_row {M : sd_M} {a i : Nat} {v : Int} : sd_s M a i v a = ms_u (M a) i v := by
  funext j
  simp [sd_s, ms_u]
/-- a run ends, and so -/
def ms_T (o : Option (Int × sd_M)) (Q : Int → sd_M → Prop) : Prop := ∃ r N, o = some (r, N) ∧ Q r N
theorem ms_t_r {r : Int} {N : sd_M} {Q : Int → sd_M → Prop} (h : Q r N) : ms_T (some (r, N)) Q := ⟨r, N, rfl, h⟩
theorem ms_t_b {o : Option (Int × sd_M)} {g : Int × sd_M → Option (Int × sd_M)} {P Q : Int → sd_M → Prop} (h : ms_T o P) (hg : ∀ r N, P r N → ms_T (g (r, N)) Q) : ms_T (o.bind g) Q := by
  obtain ⟨r, N, rfl, hp⟩ := h
  exact hg r N hp
theorem ms_t_c {c : Prop} [Decidable c] {a : Option (Int × sd_M)} {Q : Int → sd_M → Prop} (hc : c) (h : ms_T a Q) : ms_T (if c then a else none) Q := by
  rw [if_pos hc]
  exact h
theorem ms_t_i {c : Prop} [Decidable c] {a b : Option (Int × sd_M)} {Q : Int → sd_M → Prop} (ht : c → ms_T a Q) (he : ¬ c → ms_T b Q) : ms_T (if c then a else b) Q := by
  split
  · exact ht ‹_›
  · exact he ‹_›
theorem ms_t_w {o : Option (Int × sd_M)} {P Q : Int → sd_M → Prop} (h : ms_T o P) (hw : ∀ r N, P r N → Q r N) : ms_T o Q := by
  obtain ⟨r, N, e, hp⟩ := h
  exact ⟨r, N, e, hw r N hp⟩
theorem ms_t_e {o : Option (Int × sd_M)} {r : Int} {N : sd_M} {Q : Int → sd_M → Prop} (e : o = some (r, N)) (h : Q r N) : ms_T o Q := ⟨r, N, e, h⟩
theorem sd_tn1 {z : Int} (h : 0 ≤ z) : (1 + z).toNat = 1 + z.toNat := by omega
theorem sd_tn2 {z : Int} (h : 0 ≤ z) : (2 + z).toNat = 2 + z.toNat := by omega
theorem sd_tn4 {z : Int} (h : 0 ≤ z) : (4 + z).toNat = 4 + z.toNat := by omega
theorem sd_tn13 {z : Int} (h : 0 ≤ z) : (13 + z).toNat = 13 + z.toNat := by omega
theorem sd_tn22 {z : Int} (h : 0 ≤ z) : (22 + z).toNat = 22 + z.toNat := by omega
theorem sd_tn23 {z : Int} (h : 0 ≤ z) : (23 + z).toNat = 23 + z.toNat := by omega
theorem sd_tn24 {z : Int} (h : 0 ≤ z) : (24 + z).toNat = 24 + z.toNat := by omega
theorem sd_tn58 {z : Int} (h : 0 ≤ z) : (58 + z).toNat = 58 + z.toNat := by omega
theorem sd_tn62 {z : Int} (h : 0 ≤ z) : (62 + z).toNat = 62 + z.toNat := by omega
theorem sd_tn71 {z : Int} (h : 0 ≤ z) : (71 + z).toNat = 71 + z.toNat := by omega
theorem sd_tn80 {z : Int} (h : 0 ≤ z) : (80 + z).toNat = 80 + z.toNat := by omega
theorem sd_tn89 {z : Int} (h : 0 ≤ z) : (89 + z).toNat = 89 + z.toNat := by omega
theorem sd_tn98 {z : Int} (h : 0 ≤ z) : (98 + z).toNat = 98 + z.toNat := by omega
theorem sd_tn107 {z : Int} (h : 0 ≤ z) : (107 + z).toNat = 107 + z.toNat := by omega
theorem sd_tn108 {z : Int} (h : 0 ≤ z) : (108 + z).toNat = 108 + z.toNat := by omega
theorem sd_t3 {k : Nat} : (3 * (k : Int)).toNat = 3 * k := by omega
theorem sd_t2 {k : Nat} : (2 * (k : Int)).toNat = 2 * k := by omega
/-- how many of the first ones wait -/
def ms_cw (S : Nat → Int) : Nat → Int
  | 0 => 0
  | n + 1 => ms_cw S n + if S (71 + n) = 0 then 1 else 0
/-- the row of numbers that a slip and its state are: what always holds of what was told -/
def ms_tl (S : Nat → Int) : Prop := (S 0 = 0 ∨ S 0 = 1) ∧ (0 ≤ S 2 ∧ S 2 ≤ 9) ∧ (0 ≤ S 3 ∧ S 3 ≤ 12) ∧ (∀ f : Nat, (f : Int) < S 2 → (1 ≤ S (4 + f) ∧ S (4 + f) ≤ 999) ∧ (S (13 + f) = 0 ∨ S (13 + f) = 1)) ∧ (∀ k : Nat, (k : Int) < S 3 → (0 ≤ S (22 + 3 * k) ∧ S (22 + 3 * k) < S 2) ∧ (0 ≤ S (23 + 3 * k) ∧ S (23 + 3 * k) ≤ 5) ∧ (0 ≤ S (24 + 3 * k) ∧ S (24 + 3 * k) ≤ 999)) ∧ (S 0 = 0 → S 2 = 0) ∧ (0 ≤ S 1 ∧ S 1 ≤ 999) ∧ (S 0 = 1 → 1 ≤ S 1)
/-- and of the state -/
def ms_ok (S : Nat → Int) : Prop := ms_tl S ∧ (0 ≤ S 60 ∧ 0 ≤ S 61 ∧ S 60 + S 61 + ms_cw S (S 2).toNat = S 2) ∧ ((0 ≤ S 59 ∧ S 59 ≤ 999) ∧ (S 0 = 1 → 1 ≤ S 59)) ∧ (∀ f : Nat, (f : Int) < S 2 → (1 ≤ S (62 + f) ∧ S (62 + f) ≤ 999) ∧ (0 ≤ S (71 + f) ∧ S (71 + f) ≤ 2) ∧ (0 ≤ S (80 + f) ∧ S (80 + f) ≤ 9999)) ∧ (∀ f : Nat, S 2 ≤ (f : Int) → f < 9 → S (71 + f) = 0) ∧ (∀ k : Nat, (k : Int) < S 60 → 0 ≤ S (89 + k) ∧ S (89 + k) < S 2 ∧ S (71 + (S (89 + k)).toNat) = 1) ∧ (∀ j k : Nat, (j : Int) < S 60 → (k : Int) < S 60 → S (89 + j) = S (89 + k) → j = k) ∧ (∀ f : Nat, (f : Int) < S 2 → S (71 + f) = 1 → ∃ k : Nat, (k : Int) < S 60 ∧ S (89 + k) = f)
theorem ms_cw_ge {S : Nat → Int} : ∀ n, 0 ≤ ms_cw S n
  | 0 => Int.le_refl _
  | n + 1 => by
    have := ms_cw_ge (S := S) n
    unfold ms_cw
    split <;> omega
/-- what is placed, along the lines -/
def ms_plk (S : Nat → Int) : Nat → Int
  | 0 => 0
  | k + 1 => ms_plk S k + S (62 + (S (89 + k)).toNat)
def ms_pl (S : Nat → Int) : Int := ms_plk S (S 60).toNat
def ms_sh (S : Nat → Int) : Int := if S 59 ≤ ms_pl S then 0 else S 59 - ms_pl S
def ms_nf (S : Nat → Int) (f : Int) : Nat → Int
  | 0 => 0
  | k + 1 => ms_nf S f k + if S (22 + 3 * k) = f then 1 else 0
theorem ms_lines {S : Nat → Int} (h : ms_ok S) : 0 ≤ S 60 ∧ S 60 ≤ S 2 ∧ S 2 ≤ 9 ∧ 0 ≤ S 61 ∧ S 61 ≤ S 2 := by
  obtain ⟨⟨t0, t2, t3, tf, tk, t4⟩, h1, h2⟩ := h
  have := ms_cw_ge (S := S) (S 2).toNat
  omega
theorem ms_line {S : Nat → Int} (h : ms_ok S) {k : Nat} (hk : (k : Int) < S 60) : (0 ≤ S (89 + k) ∧ S (89 + k) < S 2) ∧ S (71 + (S (89 + k)).toNat) = 1 ∧ (1 ≤ S (62 + (S (89 + k)).toNat) ∧ S (62 + (S (89 + k)).toNat) ≤ 999) ∧ (S (13 + (S (89 + k)).toNat) = 0 ∨ S (13 + (S (89 + k)).toNat) = 1) ∧ (0 ≤ S (80 + (S (89 + k)).toNat) ∧ S (80 + (S (89 + k)).toNat) ≤ 9999) := by
  obtain ⟨⟨t0, t2, t3, tf, tk, t4⟩, h1, h2, h3, h4, h5, h6, h7⟩ := h
  have a := h5 k hk
  have b := h3 (S (89 + k)).toNat (by omega)
  have c := tf (S (89 + k)).toNat (by omega)
  exact ⟨⟨a.1, a.2.1⟩, a.2.2, b.1, c.2, b.2.2⟩
theorem ms_plk_le {S : Nat → Int} (h : ms_ok S) : ∀ k : Nat, (k : Int) ≤ S 60 → (k : Int) ≤ ms_plk S k ∧ ms_plk S k ≤ 999 * k := by
  intro k
  induction k with
  | zero => intro _; exact ⟨Int.le_refl _, Int.le_refl _⟩
  | succ k ih =>
    intro hk
    have i := ih (by omega)
    have a := ms_line h (k := k) (by omega)
    unfold ms_plk
    constructor <;> omega
theorem ms_pl_le {S : Nat → Int} (h : ms_ok S) : 0 ≤ ms_pl S ∧ ms_pl S ≤ 8991 ∧ S 60 ≤ ms_pl S := by
  have l := ms_lines h
  have := ms_plk_le h (S 60).toNat (by omega)
  unfold ms_pl
  omega
