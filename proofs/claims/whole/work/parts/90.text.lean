/-! TEXTS: bytes, runs, words, numbers, tokens; what the class cuts -/
def tx_ub (b : Int) : Int := if b < 0 then b + 256 else b
theorem tx_ub_f : ∀ i : Fin 256, sd_and ((i.val : Int) - 128) 255 = tx_ub ((i.val : Int) - 128) := by decide +kernel
theorem tx_ub_a {b : Int} (h : -128 ≤ b ∧ b < 128) : sd_and b 255 = tx_ub b := by
  have q := tx_ub_f ⟨(b + 128).toNat, by omega⟩
  have e : (((b + 128).toNat : Nat) : Int) - 128 = b := by omega
  rw [show ((⟨(b + 128).toNat, by omega⟩ : Fin 256).val : Int) - 128 = b from e] at q
  exact q
theorem tx_ub_c (b : Int) : (0 ≤ b ∧ tx_ub b = b) ∨ (b < 0 ∧ tx_ub b = b + 256) := by
  unfold tx_ub
  split <;> omega
/-- a text of n bytes in the class -/
def tx_by (M : sd_M) (B : Nat → Int) (n : Nat) : Prop := M 1 1 = n ∧ n ≤ 400 ∧ ∀ j, j < n → M 2 j = B j ∧ (-128 ≤ B j ∧ B j < 128)
theorem tx_byteAt {M : sd_M} {B : Nat → Int} {n p : Nat} (h : tx_by M B n) (hp : p < n) : f_X7_byteAt (p : Int) M = some (tx_ub (B p), M) := by
  obtain ⟨h1, h2, h3⟩ := h
  obtain ⟨e, b⟩ := h3 p hp
  unfold f_X7_byteAt
  rw [if_neg (by omega), h1, if_neg (by omega), if_neg (by omega), if_pos (by omega), Int.toNat_natCast, e, tx_ub_a b]
theorem tx_byteEnd {M : sd_M} {B : Nat → Int} {n p : Nat} (h : tx_by M B n) (hp : n ≤ p) : f_X7_byteAt (p : Int) M = some (512, M) := by
  unfold f_X7_byteAt
  rw [if_neg (by omega), h.1, if_pos (by omega)]
/-- how many bytes between two go on -/
def tx_run (lo hi : Int) (B : Nat → Int) : Nat → Nat → Nat
  | 0, _ => 0
  | m + 1, p => if lo ≤ B p ∧ B p ≤ hi then tx_run lo hi B m (p + 1) + 1 else 0
theorem tx_run_le {lo hi : Int} {B : Nat → Int} : ∀ (m p : Nat), tx_run lo hi B m p ≤ m
  | 0, _ => Nat.le_refl _
  | m + 1, p => by
    have := tx_run_le (lo := lo) (hi := hi) (B := B) m (p + 1)
    unfold tx_run
    split <;> omega
theorem tx_run_in {lo hi : Int} {B : Nat → Int} : ∀ (m p t : Nat), t < tx_run lo hi B m p → lo ≤ B (p + t) ∧ B (p + t) ≤ hi
  | 0, _, _, h => absurd h (Nat.not_lt_zero _)
  | m + 1, p, t, h => by
    rw [tx_run] at h
    by_cases c : lo ≤ B p ∧ B p ≤ hi
    · rw [if_pos c] at h
      cases t with
      | zero => exact c
      | succ t =>
        have q := tx_run_in (lo := lo) (hi := hi) (B := B) m (p + 1) t (by omega)
        rw [show p + 1 + t = p + (t + 1) by omega] at q
        exact q
    · rw [if_neg c] at h
      exact absurd h (Nat.not_lt_zero _)
theorem tx_runOf_l {M : sd_M} {B : Nat → Int} {n : Nat} (h : tx_by M B n) {lo hi : Int} (hl : 0 ≤ lo) (hh : hi < 128) : ∀ (m p c fu : Nat), p + m = n → c ≤ p → m < fu → f_X7_runOf_6 fu lo hi (c : Int) (p : Int) M = some (((c + tx_run lo hi B m p : Nat) : Int), M) := by
  intro m
  induction m with
  | zero =>
    intro p c fu hp hcp hf
    obtain ⟨fu, rfl⟩ : ∃ g, fu = g + 1 := ⟨fu - 1, by omega⟩
    rw [f_X7_runOf_6, h.1, if_pos (by omega)]
    rfl
  | succ m ih =>
    intro p c fu hp hcp hf
    obtain ⟨fu, rfl⟩ : ∃ g, fu = g + 1 := ⟨fu - 1, by omega⟩
    have b := (h.2.2 p (by omega)).2
    have n4 := h.2.1
    rw [f_X7_runOf_6, h.1, if_neg (by omega), tx_byteAt h (by omega), Option.bind_some]
    simp only []
    rw [tx_byteAt h (by omega), Option.bind_some]
    simp only []
    have u := tx_ub_c (B p)
    rw [tx_run]
    by_cases c1 : tx_ub (B p) < lo
    · rw [if_pos c1, if_neg (by omega)]
      rfl
    · rw [if_neg c1]
      by_cases c2 : hi < tx_ub (B p)
      · rw [if_pos c2, if_neg (by omega)]
        rfl
      · rw [if_neg c2, if_pos (by omega), sd_wid (by omega) (by omega), sd_wid (by omega) (by omega), show (c : Int) + 1 = ((c + 1 : Nat) : Int) from rfl, show (p : Int) + 1 = ((p + 1 : Nat) : Int) from rfl, ih (p + 1) (c + 1) fu (by omega) (by omega) (by omega)]
        rw [show c + 1 + tx_run lo hi B m (p + 1) = c + (tx_run lo hi B m (p + 1) + 1) by omega]
theorem tx_runOf {M : sd_M} {B : Nat → Int} {n p : Nat} (h : tx_by M B n) (hp : p ≤ n) {lo hi : Int} (hl : 0 ≤ lo) (hh : hi < 128) : f_X7_runOf lo hi (p : Int) M = some (((tx_run lo hi B (n - p) p : Nat) : Int), M) := by
  have := h.2.1
  have q := tx_runOf_l h hl hh (n - p) p 0 4000 (by omega) (by omega) (by omega)
  rw [Nat.zero_add] at q
  exact q
/-! numbers -/
def tx_nm (B : Nat → Int) (p : Nat) : Nat → Int
  | 0 => 0
  | k + 1 => tx_nm B p k * 10 + B (p + k) - 48
def tx_pw : Nat → Int
  | 0 => 1
  | k + 1 => 10 * tx_pw k
theorem tx_nm_b {B : Nat → Int} {p : Nat} : ∀ k, (∀ t, t < k → 48 ≤ B (p + t) ∧ B (p + t) ≤ 57) → 0 ≤ tx_nm B p k ∧ tx_nm B p k < tx_pw k
  | 0, _ => ⟨Int.le_refl _, show (0 : Int) < 1 by omega⟩
  | k + 1, h => by
    have q := tx_nm_b k (fun t ht => h t (by omega))
    have d := h k (by omega)
    unfold tx_nm tx_pw
    omega
theorem tx_pw5 : ∀ k, k ≤ 5 → tx_pw k ≤ 100000 := by decide
theorem tx_nm5 {B : Nat → Int} {p k : Nat} (hk : k ≤ 5) (h : ∀ t, t < k → 48 ≤ B (p + t) ∧ B (p + t) ≤ 57) : 0 ≤ tx_nm B p k ∧ tx_nm B p k ≤ 99999 := by
  have q := tx_nm_b k h
  have w := tx_pw5 k hk
  omega
theorem tx_numberAt_l {M : sd_M} {B : Nat → Int} {n p d : Nat} (h : tx_by M B n) (hd : p + d ≤ n) (hg : ∀ t, t < d → 48 ≤ B (p + t) ∧ B (p + t) ≤ 57) (d5 : Nat) (e5 : d5 = min d 5) : ∀ (m i fu : Nat), i + m = d5 → m < fu → f_X7_numberAt_5 f_X7_numberAt_40 fu (p : Int) (d : Int) (tx_nm B p i) (i : Int) M = some (if d ≤ 5 then tx_nm B p d5 else -1, M) := by
  intro m
  have n4 := h.2.1
  induction m with
  | zero =>
    intro i fu hi hf
    obtain ⟨fu, rfl⟩ : ∃ g, fu = g + 1 := ⟨fu - 1, by omega⟩
    obtain rfl : i = d5 := by omega
    rw [f_X7_numberAt_5]
    have e : f_X7_numberAt_40 (d : Int) (tx_nm B p i) M = some (if d ≤ 5 then tx_nm B p i else -1, M) := by
      unfold f_X7_numberAt_40
      by_cases c : d ≤ 5
      · rw [if_pos (by omega), if_pos c]
      · rw [if_neg (by omega), if_neg c]
    by_cases c : (d : Int) ≤ (i : Int)
    · rw [if_pos c]
      exact e
    · rw [if_neg c, if_pos (by omega)]
      exact e
  | succ m ih =>
    intro i fu hi hf
    obtain ⟨fu, rfl⟩ : ∃ g, fu = g + 1 := ⟨fu - 1, by omega⟩
    have b := tx_nm5 (B := B) (p := p) (k := i) (by omega) (fun t ht => hg t (by omega))
    have g := hg i (by omega)
    have u : tx_ub (B (p + i)) = B (p + i) := by
      unfold tx_ub
      rw [if_neg (by omega)]
    rw [f_X7_numberAt_5, if_neg (by omega), if_neg (by omega), sd_wid (z := (p : Int) + (i : Int)) (by omega) (by omega), show (p : Int) + (i : Int) = ((p + i : Nat) : Int) from rfl, tx_byteAt h (by omega), Option.bind_some]
    simp only []
    rw [u, sd_wid (z := tx_nm B p i * 10) (by omega) (by omega), sd_wid (z := tx_nm B p i * 10 + B (p + i)) (by omega) (by omega), sd_wid (z := tx_nm B p i * 10 + B (p + i) - 48) (by omega) (by omega), sd_wid (z := (i : Int) + 1) (by omega) (by omega), show (i : Int) + 1 = ((i + 1 : Nat) : Int) from rfl]
    exact ih (i + 1) fu (by omega) (by omega)
theorem tx_numberAt {M : sd_M} {B : Nat → Int} {n p d : Nat} (h : tx_by M B n) (hd : p + d ≤ n) (hg : ∀ t, t < d → 48 ≤ B (p + t) ∧ B (p + t) ≤ 57) : f_X7_numberAt (p : Int) (d : Int) M = some (if d ≤ 5 then tx_nm B p d else -1, M) := by
  have q := tx_numberAt_l h hd hg (min d 5) rfl (min d 5) 0 4000 (by omega) (by omega)
  unfold f_X7_numberAt
  refine Eq.trans q ?_
  by_cases c : d ≤ 5
  · rw [if_pos c, if_pos c, show min d 5 = d by omega]
  · rw [if_neg c, if_neg c]
/-! words -/
def tx_mt (B : Nat → Int) : Nat → List Int → Bool
  | _, [] => true
  | p, c :: w => decide (B p = c) && tx_mt B (p + 1) w
def tx_ws : List (List Int) := [[111, 102, 102, 101, 114], [119, 114, 105, 116, 101, 115], [115, 116, 97, 110, 100, 115], [110, 101, 101, 100, 115], [108, 105, 110, 101, 115], [112, 108, 97, 99, 101, 100], [111, 114, 100, 101, 114], [115, 104, 111, 114, 116], [119, 97, 105, 116, 105, 110, 103], [103, 111, 110, 101], [100, 97, 121], [115, 108, 105, 112], [116, 97, 107, 101], [105, 102], [97, 110, 100], [111, 114], [110, 111, 116]]
def tx_wn (B : Nat → Int) (p l : Nat) : List (List Int) → Nat → Nat
  | [], _ => 99
  | w :: ws, j => if w.length = l ∧ tx_mt B p w = true then j else tx_wn B p l ws (j + 1)
/-- where the words lie in the string -/
def tx_at : Nat → List (List Int) → Bool
  | i, [] => decide (i = 92)
  | i, w :: ws => (List.range w.length).all (fun t => decide (sd_word (i + t) = w.getD t 0) && decide (97 ≤ w.getD t 0) && decide (w.getD t 0 ≤ 122)) && decide (sd_word (i + w.length) = 32) && decide (i + w.length < 92) && tx_at (i + w.length + 1) ws
theorem tx_at0 : tx_at 0 tx_ws = true := by decide +kernel
theorem tx_wordAt_w {M : sd_M} {B : Nat → Int} {n p l : Nat} (h : tx_by M B n) (hl : p + l ≤ n) (j : Nat) : ∀ (w : List Int) (i s fu : Nat) (b : Bool), (∀ t, t < w.length → sd_word (i + t) = w.getD t 0 ∧ 97 ≤ w.getD t 0 ∧ w.getD t 0 ≤ 122) → i + w.length < 92 → s ≤ i → (b = true → s ≤ l) → f_X7_wordAt_11 (fu + w.length) (p : Int) (l : Int) (j : Int) (s : Int) (if b = true then 1 else 0) (i : Int) M = f_X7_wordAt_11 fu (p : Int) (l : Int) (j : Int) ((s + w.length : Nat) : Int) (if (b && decide (s + w.length ≤ l) && tx_mt B (p + s) w) = true then 1 else 0) ((i + w.length : Nat) : Int) M := by
  intro w
  have n4 := h.2.1
  induction w with
  | nil =>
    intro i s fu b hw hi hs hb
    have e : (b && decide (s + ([] : List Int).length ≤ l) && tx_mt B (p + s) []) = b := by
      rw [tx_mt, Bool.and_true]
      cases b with
      | false => rfl
      | true => simpa using hb rfl
    rw [e]
    rfl
  | cons c w ih =>
    intro i s fu b hw hi hs hb
    have hc := hw 0 (by simp)
    rw [List.getD_cons_zero, Nat.add_zero] at hc
    rw [List.length_cons] at hi hw
    have k : ∀ b2 : Bool, (b2 = true → s + 1 ≤ l) → f_X7_wordAt_11 (fu + w.length) (p : Int) (l : Int) (j : Int) (sd_w ((s : Int) + 1)) (if b2 = true then 1 else 0) (sd_w ((i : Int) + 1)) M = f_X7_wordAt_11 fu (p : Int) (l : Int) (j : Int) ((s + (c :: w).length : Nat) : Int) (if (b2 && decide (s + (c :: w).length ≤ l) && tx_mt B (p + (s + 1)) w) = true then 1 else 0) ((i + (c :: w).length : Nat) : Int) M := by
      intro b2 h2
      rw [sd_wid (by omega) (by omega), sd_wid (by omega) (by omega)]
      have q := ih (i + 1) (s + 1) fu b2 (fun t ht => by
        have g := hw (t + 1) (by omega)
        rw [List.getD_cons_succ, show i + (t + 1) = i + 1 + t by omega] at g
        exact g) (by omega) (by omega) h2
      rw [List.length_cons, show s + (w.length + 1) = s + 1 + w.length by omega, show i + (w.length + 1) = i + 1 + w.length by omega]
      exact q
    rw [List.length_cons, show fu + (w.length + 1) = fu + w.length + 1 by omega, f_X7_wordAt_11, if_neg (by omega), if_pos (by omega), Int.toNat_natCast, hc.1, if_neg (by omega)]
    rw [← List.length_cons (a := c)]
    cases b with
    | false =>
      rw [if_pos (by simp)]
      refine Eq.trans (k false (by simp)) ?_
      rfl
    | true =>
      rw [if_neg (by simp)]
      by_cases c1 : (l : Int) ≤ (s : Int)
      · rw [if_pos c1]
        refine Eq.trans (k false (by simp)) ?_
        rw [Bool.false_and, Bool.false_and, decide_eq_false (show ¬ s + (c :: w).length ≤ l by rw [List.length_cons]; omega), Bool.and_false, Bool.false_and]
      · have u := tx_ub_c (B (p + s))
        have bb := (h.2.2 (p + s) (by omega)).2
        rw [if_neg c1, sd_wid (by omega) (by omega), show (p : Int) + (s : Int) = ((p + s : Nat) : Int) from rfl, tx_byteAt h (by omega), Option.bind_some]
        simp only []
        by_cases c2 : tx_ub (B (p + s)) = c
        · rw [if_pos c2]
          refine Eq.trans (k true (fun _ => by omega)) ?_
          rw [tx_mt, decide_eq_true (show B (p + s) = c by omega), Bool.true_and (tx_mt B (p + s + 1) w)]
          rfl
        · rw [if_neg c2]
          refine Eq.trans (k false (by simp)) ?_
          rw [tx_mt, decide_eq_false (show ¬ B (p + s) = c by omega), Bool.false_and, Bool.false_and, Bool.false_and, Bool.and_false]
theorem tx_wordAt_l {M : sd_M} {B : Nat → Int} {n p l : Nat} (h : tx_by M B n) (hl : p + l ≤ n) : ∀ (ws : List (List Int)) (i j fu : Nat), tx_at i ws = true → j ≤ i → i + fu = 4000 → f_X7_wordAt_11 fu (p : Int) (l : Int) (j : Int) 0 1 (i : Int) M = some (((tx_wn B p l ws j : Nat) : Int), M) := by
  intro ws
  induction ws with
  | nil =>
    intro i j fu hi hj hf
    have e : i = 92 := of_decide_eq_true hi
    obtain ⟨fu, rfl⟩ : ∃ g, fu = g + 1 := ⟨fu - 1, by omega⟩
    rw [f_X7_wordAt_11, if_pos (by omega)]
    rfl
  | cons w ws ih =>
    intro i j fu hi hj hf
    rw [tx_at, Bool.and_eq_true, Bool.and_eq_true, Bool.and_eq_true] at hi
    obtain ⟨⟨⟨h1, h2⟩, h3⟩, h4⟩ := hi
    have h3 := of_decide_eq_true h3
    have h2 := of_decide_eq_true h2
    have hw : ∀ t, t < w.length → sd_word (i + t) = w.getD t 0 ∧ 97 ≤ w.getD t 0 ∧ w.getD t 0 ≤ 122 := by
      intro t ht
      have q := List.all_eq_true.mp h1 t (List.mem_range.mpr ht)
      rw [Bool.and_eq_true, Bool.and_eq_true] at q
      exact ⟨of_decide_eq_true q.1.1, of_decide_eq_true q.1.2, of_decide_eq_true q.2⟩
    obtain ⟨g, rfl⟩ : ∃ g, fu = (g + 1) + w.length := ⟨fu - w.length - 1, by omega⟩
    have q := tx_wordAt_w h hl j w i 0 (g + 1) true hw h3 (by omega) (fun _ => by omega)
    refine Eq.trans q ?_
    rw [Nat.zero_add, show p + 0 = p from rfl, f_X7_wordAt_11, if_neg (by omega), if_pos (by omega), Int.toNat_natCast, h2, if_pos (show (32 : Int) = 32 from rfl)]
    have k : f_X7_wordAt_87 (f_X7_wordAt_11 g) (p : Int) (l : Int) (j : Int) ((i + w.length : Nat) : Int) M = some (((tx_wn B p l ws (j + 1) : Nat) : Int), M) := by
      unfold f_X7_wordAt_87 f_X7_wordAt_96
      rw [sd_wid (by omega) (by omega), sd_wid (by omega) (by omega)]
      exact ih (i + w.length + 1) (j + 1) g h4 (by omega) (by omega)
    rw [tx_wn]
    by_cases c : w.length = l ∧ tx_mt B p w = true
    · rw [if_pos c, c.2, decide_eq_true (show w.length ≤ l by omega), if_neg (by simp), if_pos (by omega)]
    · rw [if_neg c]
      by_cases c2 : (true && decide (w.length ≤ l) && tx_mt B p w) = true
      · rw [if_pos c2, if_neg (by decide)]
        rw [Bool.and_eq_true] at c2
        rw [if_neg (fun e => c ⟨by omega, c2.2⟩)]
        exact k
      · rw [if_neg c2, if_pos rfl]
        exact k
theorem tx_wordAt {M : sd_M} {B : Nat → Int} {n p l : Nat} (h : tx_by M B n) (hl : p + l ≤ n) : f_X7_wordAt (p : Int) (l : Int) M = some (((tx_wn B p l tx_ws 0 : Nat) : Int), M) := tx_wordAt_l h hl tx_ws 0 0 4000 tx_at0 (by omega) (by omega)
