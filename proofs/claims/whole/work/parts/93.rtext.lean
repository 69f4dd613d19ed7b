/-! the reference reads by places -/
def tx_rb (M : sd_M) (B : Nat → Int) (n : Nat) : Prop := M 331 1 = n ∧ n ≤ 400 ∧ ∀ j, j < n → M 332 j = B j ∧ (-128 ≤ B j ∧ B j < 128)
theorem tx_rb_c {M N : sd_M} {B : Nat → Int} {n : Nat} (h : tx_rb M B n) (e1 : N 331 1 = M 331 1) (e2 : N 332 = M 332) : tx_rb N B n := ⟨e1.trans h.1, h.2.1, fun j hj => by rw [e2]; exact h.2.2 j hj⟩
/-- the token at p is next -/
def tx_rs (M : sd_M) (B : Nat → Int) (n p : Nat) : Prop := tx_rb M B n ∧ ∃ q : Nat, M 331 8 = (q : Int) ∧ q ≤ n ∧ tx_s B n q = p
theorem sd_s_id {M : sd_M} {a i : Nat} {v : Int} (h : M a i = v) : sd_s M a i v = M := by
  funext b j
  unfold sd_s
  by_cases c : b = a ∧ j = i
  · rw [if_pos c, c.1, c.2, h]
  · rw [if_neg c]
theorem sd_s_ss {M : sd_M} {a i : Nat} {v w : Int} : sd_s (sd_s M a i v) a i w = sd_s M a i w := by
  funext b j
  unfold sd_s
  by_cases c : b = a ∧ j = i
  · rw [if_pos c, if_pos c]
  · rw [if_neg c, if_neg c, if_neg c]
theorem tx_rs_c {M N : sd_M} {B : Nat → Int} {n p : Nat} (h : tx_rs M B n p) (e1 : N 331 1 = M 331 1) (e8 : N 331 8 = M 331 8) (e2 : N 332 = M 332) : tx_rs N B n p := ⟨tx_rb_c h.1 e1 e2, by rw [e8]; exact h.2⟩
theorem tx_rs_b {M : sd_M} {B : Nat → Int} {n p : Nat} (h : tx_rs M B n p) : p ≤ n ∧ n ≤ 400 ∧ tx_s B n p = p := by
  obtain ⟨h1, q, h2, h3, rfl⟩ := h
  exact ⟨(tx_s_b h3).2, h1.2.1, tx_s_s h3⟩
theorem tx_rb_8 {M : sd_M} {B : Nat → Int} {n : Nat} {v : Int} (h : tx_rb M B n) : tx_rb (sd_s M 331 8 v) B n := tx_rb_c h (sd_s_j (by omega)) (sd_s_a (by omega))
theorem tx_rs_8 {M : sd_M} {B : Nat → Int} {n p : Nat} (h : tx_rs M B n p) : tx_rs (sd_s M 331 8 (p : Int)) B n p := ⟨tx_rb_8 h.1, p, sd_s_at, (tx_rs_b h).1, (tx_rs_b h).2.2⟩
theorem tx_rs_n {M : sd_M} {B : Nat → Int} {n q : Nat} (h : tx_rb M B n) (hq : q ≤ n) : tx_rs (sd_s M 331 8 (q : Int)) B n (tx_s B n q) := ⟨tx_rb_8 h, q, sd_s_at, hq, rfl⟩
theorem tx_see_l {B : Nat → Int} {n : Nat} : ∀ (m q fu : Nat) (M : sd_M), q + m = n → m < fu → tx_rb M B n → M 331 8 = (q : Int) → f_X10_see_0 f_X10_see_38 fu M = some (if tx_s B n q < n then tx_ub (B (tx_s B n q)) else -1, sd_s M 331 8 (tx_s B n q : Int)) := by
  intro m
  induction m with
  | zero =>
    intro q fu M hq hf hb h8
    obtain ⟨fu, rfl⟩ : ∃ g, fu = g + 1 := ⟨fu - 1, by omega⟩
    rw [f_X10_see_0, hb.1, h8, if_pos (by omega), tx_s_e (by omega), if_neg (by omega), sd_s_id h8]
    unfold f_X10_see_38
    rw [hb.1, h8, if_pos (by omega)]
  | succ m ih =>
    intro q fu M hq hf hb h8
    have n4 := hb.2.1
    obtain ⟨fu, rfl⟩ : ∃ g, fu = g + 1 := ⟨fu - 1, by omega⟩
    obtain ⟨e, bb⟩ := hb.2.2 q (by omega)
    rw [f_X10_see_0, hb.1, h8, if_neg (by omega), if_pos (by omega), Int.toNat_natCast, e]
    by_cases c : B q = 32
    · rw [if_pos c, sd_wid (by omega) (by omega), show (q : Int) + 1 = ((q + 1 : Nat) : Int) from rfl, ih (q + 1) fu _ (by omega) (by omega) (tx_rb_8 hb) sd_s_at, sd_s_ss, tx_s_sp (by omega) c]
    · rw [if_neg c, tx_s_ns c, if_pos (by omega), sd_s_id h8]
      unfold f_X10_see_38
      rw [hb.1, h8, if_neg (by omega), if_pos (by omega), Int.toNat_natCast, e, tx_ub_a bb]
theorem tx_see {M : sd_M} {B : Nat → Int} {n p : Nat} (h : tx_rs M B n p) : f_X10_see M = some (if p < n then tx_ub (B p) else -1, sd_s M 331 8 (p : Int)) := by
  obtain ⟨h1, q, h2, h3, rfl⟩ := h
  have := h1.2.1
  exact tx_see_l (n - q) q 4000 M (by omega) (by omega) h1 h2
theorem tx_isDigit {M : sd_M} {B : Nat → Int} {n : Nat} (h : tx_rb M B n) (k : Nat) : f_X10_isDigit (k : Int) M = some (if k < n ∧ 48 ≤ B k ∧ B k ≤ 57 then 1 else 0, M) := by
  have n4 := h.2.1
  unfold f_X10_isDigit
  rw [h.1]
  by_cases c : k < n
  · obtain ⟨e, bb⟩ := h.2.2 k c
    rw [if_neg (by omega), if_pos (by omega), Int.toNat_natCast, e]
    by_cases c1 : B k < 48
    · rw [if_pos c1, if_neg (by omega)]
    · rw [if_neg c1, if_pos (by omega)]
      by_cases c2 : 57 < B k
      · rw [if_pos c2, if_neg (by omega)]
      · rw [if_neg c2, if_pos (by omega)]
  · rw [if_pos (by omega), if_neg (by omega)]
theorem tx_isLetter {M : sd_M} {B : Nat → Int} {n : Nat} (h : tx_rb M B n) (k : Nat) : f_X10_isLetter (k : Int) M = some (if k < n ∧ 97 ≤ B k ∧ B k ≤ 122 then 1 else 0, M) := by
  have n4 := h.2.1
  unfold f_X10_isLetter
  rw [h.1]
  by_cases c : k < n
  · obtain ⟨e, bb⟩ := h.2.2 k c
    rw [if_neg (by omega), if_pos (by omega), Int.toNat_natCast, e]
    by_cases c1 : B k < 97
    · rw [if_pos c1, if_neg (by omega)]
    · rw [if_neg c1, if_pos (by omega)]
      by_cases c2 : 122 < B k
      · rw [if_pos c2, if_neg (by omega)]
      · rw [if_neg c2, if_pos (by omega)]
  · rw [if_pos (by omega), if_neg (by omega)]
theorem tx_run_end {lo hi : Int} {B : Nat → Int} : ∀ (m p : Nat), tx_run lo hi B m p < m → ¬ (lo ≤ B (p + tx_run lo hi B m p) ∧ B (p + tx_run lo hi B m p) ≤ hi)
  | 0, _, h => absurd h (Nat.not_lt_zero _)
  | m + 1, p, h => by
    rw [tx_run] at h ⊢
    by_cases c : lo ≤ B p ∧ B p ≤ hi
    · rw [if_pos c] at h ⊢
      have q := tx_run_end (lo := lo) (hi := hi) (B := B) m (p + 1) (by omega)
      rw [show p + (tx_run lo hi B m (p + 1) + 1) = p + 1 + tx_run lo hi B m (p + 1) by omega]
      exact q
    · rw [if_neg c]
      exact c
theorem tx_run_at {lo hi : Int} {B : Nat → Int} {n p i : Nat} (hp : p ≤ n) (hi2 : i ≤ tx_run lo hi B (n - p) p) : (p + i < n ∧ lo ≤ B (p + i) ∧ B (p + i) ≤ hi) ↔ i < tx_run lo hi B (n - p) p := by
  have le := tx_run_le (lo := lo) (hi := hi) (B := B) (n - p) p
  constructor
  · intro q
    by_cases c : i < tx_run lo hi B (n - p) p
    · exact c
    · have e : i = tx_run lo hi B (n - p) p := by omega
      have w := tx_run_end (lo := lo) (hi := hi) (B := B) (n - p) p (by omega)
      rw [← e] at w
      exact absurd q.2 w
  · intro q
    exact ⟨by omega, tx_run_in _ _ i q⟩
/-! words as numbers -/
theorem tx_or {v b : Int} (hv : 0 ≤ v ∧ v < 281474976710656) (hb : 0 ≤ b ∧ b < 256) : sd_lorl (sd_lshl v 8) b = v * 256 + b := by
  obtain ⟨x, rfl⟩ : ∃ x : Nat, v = x := ⟨v.toNat, by omega⟩
  obtain ⟨y, rfl⟩ : ∃ y : Nat, b = y := ⟨b.toNat, by omega⟩
  have e1 : sd_lshl (x : Int) 8 = ((x * 256 : Nat) : Int) := by
    unfold sd_lshl
    have e : (Int64.ofInt (x : Int) <<< ((Int32.ofInt 8).toInt64 &&& 63)).toBitVec = (Int64.ofInt (x : Int)).toBitVec <<< 8 := rfl
    have f : (Int64.ofInt (x : Int) <<< ((Int32.ofInt 8).toInt64 &&& 63)).toBitVec.toNat = x * 256 := by
      rw [e, BitVec.toNat_shiftLeft, Int64.toBitVec_ofInt, BitVec.toNat_ofInt, show ((x : Int) % ((2 ^ 64 : Nat) : Int)).toNat = x by omega, Nat.shiftLeft_eq]
      omega
    rw [← Int64.toInt_toBitVec, BitVec.toInt_eq_toNat_of_lt (by rw [f]; omega), f]
  rw [e1]
  unfold sd_lorl
  have f : (Int64.ofInt ((x * 256 : Nat) : Int) ||| Int64.ofInt (y : Int)).toBitVec.toNat = x * 256 + y := by
    rw [Int64.toBitVec_or, BitVec.toNat_or, Int64.toBitVec_ofInt, Int64.toBitVec_ofInt, BitVec.toNat_ofInt, BitVec.toNat_ofInt, show (((x * 256 : Nat) : Int) % ((2 ^ 64 : Nat) : Int)).toNat = x * 256 by omega, show ((y : Int) % ((2 ^ 64 : Nat) : Int)).toNat = y by omega]
    have q := Nat.shiftLeft_add_eq_or_of_lt (i := 8) (b := y) (show y < 2 ^ 8 by omega) x
    rw [Nat.shiftLeft_eq] at q
    exact q.symm
  rw [← Int64.toInt_toBitVec, BitVec.toInt_eq_toNat_of_lt (by rw [f]; omega), f]
  omega
def tx_pk (B : Nat → Int) (p : Nat) : Nat → Int
  | 0 => 0
  | k + 1 => tx_pk B p k * 256 + B (p + k)
def tx_p2 : Nat → Int
  | 0 => 1
  | k + 1 => 256 * tx_p2 k
theorem tx_pk_b {B : Nat → Int} {p : Nat} : ∀ k, (∀ t, t < k → 97 ≤ B (p + t) ∧ B (p + t) ≤ 122) → 0 ≤ tx_pk B p k ∧ tx_pk B p k < tx_p2 k
  | 0, _ => ⟨Int.le_refl _, show (0 : Int) < 1 by omega⟩
  | k + 1, h => by
    have q := tx_pk_b k (fun t ht => h t (by omega))
    have d := h k (by omega)
    unfold tx_pk tx_p2
    omega
theorem tx_p26 : ∀ k, k ≤ 6 → tx_p2 k ≤ 281474976710656 := by decide
theorem tx_isWord_l {M : sd_M} {B : Nat → Int} {n p l : Nat} (h : tx_rb M B n) (h8 : M 331 8 = (p : Int)) (hp : p ≤ n) (el : l = tx_l B n p) (W : Int) : ∀ (m i fu : Nat) (v : Int), i + m = l → m < fu → (i ≤ 7 → v = tx_pk B p i) → f_X10_isWord_10 f_X10_isWord_56 fu W v (i : Int) M = some (if 0 < l ∧ l < 8 ∧ tx_pk B p l = W then 1 else 0, M) := by
  have n4 := h.2.1
  have lb := tx_l_b (B := B) (n := n) (p := p)
  intro m
  induction m with
  | zero =>
    intro i fu v hi hf hv
    obtain ⟨fu, rfl⟩ : ∃ g, fu = g + 1 := ⟨fu - 1, by omega⟩
    obtain rfl : i = l := by omega
    have q := tx_run_at (lo := 97) (hi := 122) (B := B) (n := n) (p := p) (i := i) hp (by rw [el]; exact Nat.le_refl _)
    have r := q.mp
    rw [f_X10_isWord_10, h8, sd_wid (by omega) (by omega), show (p : Int) + (i : Int) = ((p + i : Nat) : Int) from rfl, tx_isLetter h, Option.bind_some]
    simp only []
    rw [if_pos (by rw [if_neg (fun w => by have := r w; unfold tx_l at el; omega)])]
    unfold f_X10_isWord_56
    by_cases c1 : (i : Int) ≤ 0
    · rw [if_pos c1, if_neg (by omega)]
    · rw [if_neg c1]
      by_cases c2 : 8 ≤ (i : Int)
      · rw [if_pos c2, if_neg (by omega)]
      · rw [if_neg c2, hv (by omega)]
        by_cases c3 : tx_pk B p i = W
        · rw [if_pos (ms_cmp.2.2.mpr c3), if_pos (by omega)]
        · rw [if_neg (fun w => c3 (ms_cmp.2.2.mp w)), if_neg (by omega)]
  | succ m ih =>
    intro i fu v hi hf hv
    obtain ⟨fu, rfl⟩ : ∃ g, fu = g + 1 := ⟨fu - 1, by omega⟩
    have q := tx_run_in (lo := 97) (hi := 122) (B := B) (n - p) p i (by unfold tx_l at el; omega)
    rw [f_X10_isWord_10, h8, sd_wid (by omega) (by omega), show (p : Int) + (i : Int) = ((p + i : Nat) : Int) from rfl, tx_isLetter h, Option.bind_some]
    simp only []
    rw [if_neg (by rw [if_pos (show p + i < n ∧ _ from ⟨by omega, q⟩)]; decide)]
    unfold f_X10_isWord_50
    rw [sd_wid (z := (i : Int) + 1) (by omega) (by omega), show (i : Int) + 1 = ((i + 1 : Nat) : Int) from rfl]
    by_cases c : 8 ≤ (i : Int)
    · rw [if_pos c]
      exact ih (i + 1) fu v (by omega) (by omega) (fun w => absurd w (by omega))
    · rw [if_neg c, h8, sd_wid (by omega) (by omega), if_pos (by omega), show (p : Int) + (i : Int) = ((p + i : Nat) : Int) from rfl, Int.toNat_natCast, (h.2.2 (p + i) (by omega)).1]
      refine ih (i + 1) fu _ (by omega) (by omega) (fun w => ?_)
      have pb := tx_pk_b (B := B) (p := p) i (fun t ht => tx_run_in (lo := 97) (hi := 122) (B := B) (n - p) p t (by unfold tx_l at el; omega))
      have p6 := tx_p26 i (by omega)
      rw [hv (by omega), tx_or (by omega) (by omega)]
      rfl
theorem tx_isWord0 {M : sd_M} {B : Nat → Int} {n p : Nat} (h : tx_rs M B n p) (W : Int) : f_X10_isWord W M = some (if 0 < tx_l B n p ∧ tx_l B n p < 8 ∧ tx_pk B p (tx_l B n p) = W then 1 else 0, sd_s M 331 8 (p : Int)) := by
  have b := tx_rs_b h
  have lb := tx_l_b (B := B) (n := n) (p := p)
  unfold f_X10_isWord
  rw [tx_see h, Option.bind_some]
  exact tx_isWord_l (tx_rb_8 h.1) sd_s_at b.1 rfl W (tx_l B n p) 0 4000 0 (by omega) (by omega) (fun _ => rfl)
theorem tx_passWord_l {B : Nat → Int} {n p l : Nat} (hp : p ≤ n) (el : l = tx_l B n p) : ∀ (m i fu : Nat) (M : sd_M), i + m = l → m < fu → tx_rb M B n → M 331 8 = ((p + i : Nat) : Int) → f_X10_passWord_0 fu M = some (0, sd_s M 331 8 ((p + l : Nat) : Int)) := by
  intro m
  have lb := tx_l_b (B := B) (n := n) (p := p)
  induction m with
  | zero =>
    intro i fu M hi hf h h8
    obtain ⟨fu, rfl⟩ : ∃ g, fu = g + 1 := ⟨fu - 1, by omega⟩
    obtain rfl : i = l := by omega
    have q := tx_run_at (lo := 97) (hi := 122) (B := B) (n := n) (p := p) (i := i) hp (by rw [el]; exact Nat.le_refl _)
    have r := q.mp
    rw [f_X10_passWord_0, h8, tx_isLetter h, Option.bind_some]
    simp only []
    rw [if_pos (by rw [if_neg (fun w => by have := r w; unfold tx_l at el; omega)]), sd_s_id h8]
  | succ m ih =>
    intro i fu M hi hf h h8
    have n4 := h.2.1
    obtain ⟨fu, rfl⟩ : ∃ g, fu = g + 1 := ⟨fu - 1, by omega⟩
    have q := tx_run_in (lo := 97) (hi := 122) (B := B) (n - p) p i (by unfold tx_l at el; omega)
    rw [f_X10_passWord_0, h8, tx_isLetter h, Option.bind_some]
    simp only []
    rw [if_neg (by rw [if_pos (show p + i < n ∧ _ from ⟨by omega, q⟩)]; decide), h8, sd_wid (by omega) (by omega), show ((p + i : Nat) : Int) + 1 = ((p + (i + 1) : Nat) : Int) by omega, ih (i + 1) fu _ (by omega) (by omega) (tx_rb_8 h) sd_s_at, sd_s_ss]
theorem tx_passWord {M : sd_M} {B : Nat → Int} {n p : Nat} (h : tx_rb M B n) (hp : p ≤ n) (h8 : M 331 8 = (p : Int)) : f_X10_passWord M = some (0, sd_s M 331 8 ((p + tx_l B n p : Nat) : Int)) := by
  have n4 := h.2.1
  have lb := tx_l_b (B := B) (n := n) (p := p)
  exact tx_passWord_l hp rfl (tx_l B n p) 0 4000 M (by omega) (by omega) h h8
/-! a word's number and its name -/
def tx_pr : List Int → Int
  | [] => 0
  | c :: r => tx_pr r * 256 + c
theorem tx_pr_p : ∀ r : List Int, (∀ c ∈ r, 97 ≤ c ∧ c ≤ 122) → 0 ≤ tx_pr r
  | [], _ => Int.le_refl _
  | c :: r, h => by
    have q := tx_pr_p r (fun d hd => h d (List.mem_cons_of_mem _ hd))
    have d := h c (List.mem_cons_self ..)
    rw [tx_pr]
    omega
theorem tx_mt_a {B : Nat → Int} : ∀ (w : List Int) (p : Nat) (c : Int), tx_mt B p (w ++ [c]) = (tx_mt B p w && decide (B (p + w.length) = c))
  | [], p, c => by
    rw [List.nil_append, tx_mt, tx_mt, tx_mt, Bool.and_true, Bool.true_and, List.length_nil, Nat.add_zero]
  | d :: w, p, c => by
    rw [List.cons_append, tx_mt, tx_mt_a w (p + 1) c, tx_mt, List.length_cons, show p + 1 + w.length = p + (w.length + 1) by omega, Bool.and_assoc]
theorem tx_pk_r {B : Nat → Int} {p : Nat} : ∀ (r : List Int) (l : Nat), (∀ c ∈ r, 97 ≤ c ∧ c ≤ 122) → (∀ t, t < l → 97 ≤ B (p + t) ∧ B (p + t) ≤ 122) → (tx_pk B p l = tx_pr r ↔ r.length = l ∧ tx_mt B p r.reverse = true)
  | [], 0, _, _ => by
    rw [List.reverse_nil, tx_mt, tx_pk, tx_pr]
    simp
  | [], l + 1, _, h => by
    have b := tx_pk_b (B := B) (p := p) l (fun t ht => h t (by omega))
    have d := h l (by omega)
    rw [tx_pk, tx_pr, List.length_nil]
    constructor
    · intro e
      omega
    · intro e
      omega
  | c :: r, 0, h, _ => by
    have b := tx_pr_p r (fun d hd => h d (List.mem_cons_of_mem _ hd))
    have d := h c (List.mem_cons_self ..)
    rw [tx_pk, tx_pr, List.length_cons]
    constructor
    · intro e
      omega
    · intro e
      omega
  | c :: r, l + 1, h, hb => by
    have q := tx_pk_r r l (fun d hd => h d (List.mem_cons_of_mem _ hd)) (fun t ht => hb t (by omega))
    have d := h c (List.mem_cons_self ..)
    have e := hb l (by omega)
    rw [tx_pk, tx_pr, List.length_cons, List.reverse_cons, tx_mt_a, List.length_reverse, Bool.and_eq_true, decide_eq_true_iff]
    constructor
    · intro w
      have w1 : tx_pk B p l = tx_pr r := by omega
      obtain ⟨w2, w3⟩ := q.mp w1
      rw [w2]
      exact ⟨rfl, w3, by omega⟩
    · intro w
      have w2 : r.length = l := by omega
      have w1 := q.mpr ⟨w2, w.2.1⟩
      have w4 := w.2.2
      rw [w2] at w4
      omega
def tx_ix (P : Int) : List Int → Nat → Nat
  | [], _ => 99
  | c :: cs, k => if P = c then k else tx_ix P cs (k + 1)
theorem tx_ix_g {P : Int} : ∀ (cs : List Int) (k : Nat), k + cs.length ≤ 99 → k ≤ tx_ix P cs k
  | [], k, h => by
    rw [List.length_nil] at h
    rw [tx_ix]
    omega
  | c :: cs, k, h => by
    rw [List.length_cons] at h
    have := tx_ix_g (P := P) cs (k + 1) (by omega)
    rw [tx_ix]
    split <;> omega
theorem tx_ix_i {P : Int} : ∀ (cs : List Int) (k j : Nat), k + cs.length ≤ 99 → cs.Nodup → j < cs.length → (tx_ix P cs k = k + j ↔ P = cs.getD j 0)
  | [], _, _, _, _, h => absurd h (Nat.not_lt_zero _)
  | c :: cs, k, 0, h, _, _ => by
    rw [List.length_cons] at h
    have g := tx_ix_g (P := P) cs (k + 1) (by omega)
    rw [tx_ix, List.getD_cons_zero]
    constructor
    · intro e
      split at e
      · assumption
      · omega
    · intro e
      rw [if_pos e]
      rfl
  | c :: cs, k, j + 1, h, hn, hj => by
    rw [List.length_cons] at h hj
    have q := tx_ix_i (P := P) cs (k + 1) j (by omega) (List.nodup_cons.mp hn).2 (by omega)
    rw [tx_ix, List.getD_cons_succ, ← q]
    constructor
    · intro e
      split at e
      · omega
      · omega
    · intro e
      have w := q.mp e
      rw [if_neg (fun e2 => (List.nodup_cons.mp hn).1 (by
        rw [← e2, w, List.getD_eq_getElem?_getD, List.getElem?_eq_getElem (by omega)]
        exact List.getElem_mem _))]
      omega
theorem tx_wn_ix {B : Nat → Int} {p l : Nat} {P : Int} : ∀ (ws : List (List Int)) (k : Nat), (∀ w ∈ ws, (w.length = l ∧ tx_mt B p w = true) ↔ P = tx_pr w.reverse) → tx_wn B p l ws k = tx_ix P (ws.map (fun w => tx_pr w.reverse)) k
  | [], k, _ => rfl
  | w :: ws, k, h => by
    have q := tx_wn_ix ws (k + 1) (fun v hv => h v (List.mem_cons_of_mem _ hv))
    have e := h w (List.mem_cons_self ..)
    rw [tx_wn, List.map_cons, tx_ix]
    by_cases c : w.length = l ∧ tx_mt B p w = true
    · rw [if_pos c, if_pos (e.mp c)]
    · rw [if_neg c, if_neg (fun x => c (e.mpr x)), q]
def tx_cn : List Int := [478459356530, 131333279212915, 126943688025203, 474147546227, 465625310579, 123610792682852, 478660552050, 495673373300, 33602627781095015, 1735356005, 6578553, 1936484720, 1952541541, 26982, 6385252, 28530, 7237492]
theorem tx_cn_e : tx_ws.map (fun w => tx_pr w.reverse) = tx_cn := by decide +kernel
theorem tx_cn_n : tx_cn.Nodup := by decide +kernel
theorem tx_ws_l : tx_ws.all (fun w => decide (w.length < 8) && decide (0 < w.length) && w.all (fun c => decide (97 ≤ c) && decide (c ≤ 122))) = true := by decide +kernel
/-- the reference's words are the class's -/
theorem tx_word_k {B : Nat → Int} {n p j : Nat} (hp : p ≤ n) (hbb : ∀ j, j < n → -128 ≤ B j ∧ B j < 128) (hj : j < 17) : (0 < tx_l B n p ∧ tx_l B n p < 8 ∧ tx_pk B p (tx_l B n p) = tx_cn.getD j 0) ↔ tx_kd B n p = ((600 + j : Nat) : Int) := by
  have lb := tx_l_b (B := B) (n := n) (p := p)
  have hl : ∀ t, t < tx_l B n p → 97 ≤ B (p + t) ∧ B (p + t) ≤ 122 := fun t ht => tx_run_in (lo := 97) (hi := 122) (n - p) p t ht
  have hw : ∀ w ∈ tx_ws, (0 < w.length ∧ w.length < 8) ∧ ∀ c ∈ w.reverse, 97 ≤ c ∧ c ≤ 122 := by
    intro w hw
    have q := List.all_eq_true.mp tx_ws_l w hw
    rw [Bool.and_eq_true, Bool.and_eq_true] at q
    refine ⟨⟨of_decide_eq_true q.1.2, of_decide_eq_true q.1.1⟩, fun c hc => ?_⟩
    have r := List.all_eq_true.mp q.2 c (List.mem_reverse.mp hc)
    rw [Bool.and_eq_true] at r
    exact ⟨of_decide_eq_true r.1, of_decide_eq_true r.2⟩
  have e : tx_wn B p (tx_l B n p) tx_ws 0 = tx_ix (tx_pk B p (tx_l B n p)) tx_cn 0 := by
    rw [← tx_cn_e]
    refine tx_wn_ix tx_ws 0 (fun w hw2 => ?_)
    have q := tx_pk_r (B := B) (p := p) w.reverse (tx_l B n p) (hw w hw2).2 hl
    rw [List.length_reverse, List.reverse_reverse] at q
    exact q.symm
  have i := tx_ix_i (P := tx_pk B p (tx_l B n p)) tx_cn 0 j (by decide) tx_cn_n hj
  rw [Nat.zero_add] at i
  constructor
  · rintro ⟨a, b, c⟩
    have z := hl 0 a
    rw [Nat.add_zero] at z
    have d0 : tx_d B n p = 0 := by
      unfold tx_d
      rw [show n - p = (n - p - 1) + 1 by omega, tx_run, if_neg (by omega)]
    unfold tx_kd
    rw [if_neg (by omega), if_neg (by omega), if_pos a, e, i.mpr c]
  · intro k
    unfold tx_kd at k
    by_cases c1 : n ≤ p
    · rw [if_pos c1] at k
      omega
    rw [if_neg c1] at k
    by_cases c2 : 0 < tx_d B n p
    · rw [if_pos c2] at k
      omega
    rw [if_neg c2] at k
    by_cases c3 : 0 < tx_l B n p
    · rw [if_pos c3] at k
      have w : tx_wn B p (tx_l B n p) tx_ws 0 = j := by omega
      rw [e] at w
      refine ⟨c3, ?_, i.mp w⟩
      have m := i.mp w
      have cm : tx_cn.getD j 0 ∈ tx_cn := by
        rw [List.getD_eq_getElem?_getD, List.getElem?_eq_getElem (by exact hj)]
        exact List.getElem_mem _
      rw [← m, ← tx_cn_e, List.mem_map] at cm
      obtain ⟨v, v1, v2⟩ := cm
      have q := (tx_pk_r (B := B) (p := p) v.reverse (tx_l B n p) (hw v v1).2 hl).mp v2.symm
      rw [List.length_reverse] at q
      have := (hw v v1).1
      omega
    · rw [if_neg c3] at k
      exfalso
      have u := tx_ub_c (B p)
      have ub := hbb p (by omega)
      split at k <;> omega
