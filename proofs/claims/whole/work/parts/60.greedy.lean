/-! giving one each to those that lost most, one after the other, is giving by rank -/
def ms_ct (p : Nat → Bool) : Nat → Int
  | 0 => 0
  | n + 1 => ms_ct p n + if p n = true then 1 else 0
theorem ms_ct_m {p q : Nat → Bool} : ∀ n, (∀ k, k < n → p k = true → q k = true) → ms_ct p n ≤ ms_ct q n
  | 0, _ => Int.le_refl _
  | n + 1, h => by
    have a := ms_ct_m n (fun k hk => h k (by omega))
    have b := h n (by omega)
    rw [ms_ct, ms_ct]
    by_cases c : p n = true
    · rw [if_pos c, if_pos (b c)]; omega
    · rw [if_neg c]
      split <;> omega
theorem ms_ct_s {p q : Nat → Bool} {j : Nat} (hj : p j = false ∧ q j = true) : ∀ n, (∀ k, k < n → p k = true → q k = true) → j < n → ms_ct p n + 1 ≤ ms_ct q n
  | 0, _, h => absurd h (by omega)
  | n + 1, h, hn => by
    have b := h n (by omega)
    rw [ms_ct, ms_ct]
    by_cases e : j = n
    · subst e
      have a := ms_ct_m (p := p) (q := q) j (fun k hk => h k (by omega))
      rw [hj.1, hj.2, if_neg (by decide), if_pos rfl]
      omega
    · have a := ms_ct_s hj n (fun k hk => h k (by omega)) (by omega)
      by_cases c : p n = true
      · rw [if_pos c, if_pos (b c)]; omega
      · rw [if_neg c]
        split <;> omega
theorem ms_ct_c {p q : Nat → Bool} : ∀ n, (∀ k, k < n → p k = q k) → ms_ct p n = ms_ct q n
  | 0, _ => rfl
  | n + 1, h => by rw [ms_ct, ms_ct, ms_ct_c n (fun k hk => h k (by omega)), h n (by omega)]
theorem ms_ct_i {p q : Nat → Bool} {j : Nat} (hj : p j = false ∧ q j = true) : ∀ n, (∀ k, k < n → k ≠ j → p k = q k) → j < n → ms_ct q n = ms_ct p n + 1
  | 0, _, h => absurd h (by omega)
  | n + 1, h, hn => by
    rw [ms_ct, ms_ct]
    by_cases e : j = n
    · subst e
      rw [ms_ct_c (p := p) (q := q) j (fun k hk => h k (by omega) (by omega)), hj.1, hj.2, if_pos rfl, if_neg (by decide)]
      omega
    · rw [ms_ct_i hj n (fun k hk => h k (by omega)) (by omega), h n (by omega) (by omega)]
      omega
theorem ms_ct_b {p : Nat → Bool} : ∀ n : Nat, 0 ≤ ms_ct p n ∧ ms_ct p n ≤ n
  | 0 => by simp [ms_ct]
  | n + 1 => by
    have := ms_ct_b (p := p) n
    rw [ms_ct]
    push_cast
    split <;> omega
/-- o is ahead of k -/
def ms_bf (r : Nat → Int) (o k : Nat) : Bool := decide (r k < r o ∨ (r o = r k ∧ o < k))
theorem ms_bf_e {r : Nat → Int} {o k : Nat} : ms_bf r o k = true ↔ (r k < r o ∨ (r o = r k ∧ o < k)) := by
  unfold ms_bf
  exact decide_eq_true_iff
theorem ms_rk_e {r : Nat → Int} {k : Nat} : ∀ n, ms_rk r k n = ms_ct (fun o => ms_bf r o k) n
  | 0 => rfl
  | n + 1 => by
    rw [ms_rk, ms_ct, ms_rk_e n]
    have := ms_bf_e (r := r) (o := n) (k := k)
    by_cases c : r k < r n ∨ (r n = r k ∧ n < k)
    · rw [if_pos c, if_pos (this.mpr c)]
    · rw [if_neg c, if_neg (fun d => c (this.mp d))]
/-- rank among members -/
def ms_rq (u : Nat → Bool) (r : Nat → Int) (n k : Nat) : Int := ms_ct (fun o => u o && ms_bf r o k) n
theorem ms_rq_lt {u : Nat → Bool} {r : Nat → Int} {n p q : Nat} (hq : q < n) (hu : u q = true) (h : ms_bf r q p = true) : ms_rq u r n q < ms_rq u r n p := by
  have hb := ms_bf_e.mp h
  have := ms_ct_s (p := fun o => u o && ms_bf r o q) (q := fun o => u o && ms_bf r o p) (j := q) ⟨by
    have : ¬ (ms_bf r q q = true) := fun e => by
      have := ms_bf_e.mp e
      omega
    simp [this], by simp [hu, h]⟩ n (fun k hk e => by
    simp only [Bool.and_eq_true] at e ⊢
    refine ⟨e.1, ms_bf_e.mpr ?_⟩
    have := ms_bf_e.mp e.2
    omega) hq
  unfold ms_rq
  omega
/-- the one that lost most: its place, and what it lost -/
def ms_lm (u : Nat → Bool) (r : Nat → Int) : Nat → Int × Int
  | 0 => (-1, -1)
  | k + 1 => if u k = true ∧ (ms_lm u r k).2 < r k then ((k : Int), r k) else ms_lm u r k
theorem ms_lm_p {u : Nat → Bool} {r : Nat → Int} : ∀ n, (∀ k, k < n → 0 ≤ r k) → (((ms_lm u r n).1 = -1 ∧ (ms_lm u r n).2 = -1 ∧ ∀ k, k < n → u k = false) ∨ ∃ p : Nat, p < n ∧ (ms_lm u r n).1 = p ∧ (ms_lm u r n).2 = r p ∧ u p = true ∧ ∀ o, o < n → u o = true → o ≠ p → ms_bf r p o = true)
  | 0, _ => Or.inl ⟨rfl, rfl, fun k hk => absurd hk (by omega)⟩
  | n + 1, h => by
    have hn := h n (by omega)
    rw [ms_lm]
    rcases ms_lm_p (u := u) n (fun k hk => h k (by omega)) with ⟨a, b, c⟩ | ⟨p, a, b, c, d, e⟩
    · by_cases x : u n = true
      · rw [if_pos ⟨x, by omega⟩]
        refine Or.inr ⟨n, by omega, rfl, rfl, x, fun o ho hu hne => ?_⟩
        rw [c o (by omega)] at hu
        exact absurd hu (by decide)
      · rw [if_neg (fun y => x y.1)]
        refine Or.inl ⟨a, b, fun k hk => ?_⟩
        by_cases y : k = n
        · subst y
          exact Bool.eq_false_iff.mpr x
        · exact c k (by omega)
    · by_cases x : u n = true ∧ (ms_lm u r n).2 < r n
      · rw [if_pos x]
        refine Or.inr ⟨n, by omega, rfl, rfl, x.1, fun o ho hu hne => ms_bf_e.mpr ?_⟩
        by_cases y : o = p
        · subst y
          omega
        · have := ms_bf_e.mp (e o (by omega) hu y)
          omega
      · rw [if_neg x]
        refine Or.inr ⟨p, by omega, b, c, d, fun o ho hu hne => ?_⟩
        by_cases y : o = n
        · subst y
          refine ms_bf_e.mpr ?_
          have : ¬ ((ms_lm u r o).2 < r o) := fun z => x ⟨hu, z⟩
          omega
        · exact e o (by omega) hu hne
/-- after g have been served: the next one has rank g, and it alone -/
theorem ms_next {m : Nat → Bool} {r : Nat → Int} {n : Nat} {g : Nat} (hr : ∀ k, k < n → 0 ≤ r k) (hs : ms_ct (fun k => m k && decide (ms_rq m r n k < g)) n = g) {p : Nat} (hp : (ms_lm (fun k => m k && decide (g ≤ ms_rq m r n k)) r n).1 = p) : p < n ∧ m p = true ∧ ms_rq m r n p = g ∧ (∀ k, k < n → m k = true → ms_rq m r n k = g → k = p) ∧ ms_ct (fun k => m k && decide (ms_rq m r n k < (g + 1 : Nat))) n = (g + 1 : Nat) := by
  rcases ms_lm_p (u := fun k => m k && decide (g ≤ ms_rq m r n k)) n hr with ⟨a, _⟩ | ⟨q, a, b, c, d, e⟩
  · omega
  · obtain rfl : q = p := by omega
    simp only [Bool.and_eq_true, decide_eq_true_eq] at d e
    have up : ms_rq m r n q ≤ g := by
      rw [← hs]
      refine ms_ct_m n (fun k hk x => ?_)
      simp only [Bool.and_eq_true, decide_eq_true_eq] at x ⊢
      refine ⟨x.1, ?_⟩
      by_cases y : (g : Int) ≤ ms_rq m r n k
      · by_cases z : k = q
        · subst z
          have := ms_bf_e.mp x.2
          omega
        · have h1 := ms_bf_e.mp (e k hk ⟨x.1, y⟩ z)
          have h2 := ms_bf_e.mp x.2
          omega
      · omega
    have eq : ms_rq m r n q = g := by omega
    have uq : ∀ k, k < n → m k = true → ms_rq m r n k = g → k = q := by
      intro k hk hm hg
      by_cases z : k = q
      · exact z
      · have h1 := ms_rq_lt (u := m) (r := r) (n := n) a d.1 (e k hk ⟨hm, by omega⟩ z)
        omega
    refine ⟨a, d.1, eq, uq, ?_⟩
    have := ms_ct_i (p := fun k => m k && decide (ms_rq m r n k < g)) (q := fun k => m k && decide (ms_rq m r n k < (g + 1 : Nat))) (j := q) ⟨by simp [eq], by simp [d.1, eq]; omega⟩ n (fun k hk hne => by
      by_cases hm : m k = true
      · have : ms_rq m r n k ≠ g := fun x => hne (uq k hk hm x)
        simp only [hm, Bool.true_and]
        rw [decide_eq_decide]
        push_cast
        omega
      · simp [hm]) a
    rw [this, hs]
    push_cast
    rfl
/-- none is left: all have been served -/
theorem ms_none {m : Nat → Bool} {r : Nat → Int} {n g : Nat} (hr : ∀ k, k < n → 0 ≤ r k) (hp : (ms_lm (fun k => m k && decide (g ≤ ms_rq m r n k)) r n).1 = -1) : ∀ k, k < n → m k = true → ms_rq m r n k < g := by
  rcases ms_lm_p (u := fun k => m k && decide (g ≤ ms_rq m r n k)) n hr with ⟨a, b, c⟩ | ⟨q, a, b, c⟩
  · intro k hk hm
    have := c k hk
    simp only [hm, Bool.true_and, decide_eq_false_iff_not] at this
    omega
  · omega
theorem ms_pos {w : Nat → Int} {a : Int} (ha : 0 ≤ a) : ∀ n : Nat, (∀ k, k < n → 0 ≤ w k ∧ w k ≤ a) → ms_sum w n ≤ a * ms_ct (fun k => decide (0 < w k)) n
  | 0, _ => by simp [ms_sum, ms_ct]
  | n + 1, h => by
    have i := ms_pos ha n (fun k hk => h k (by omega))
    have j := h n (by omega)
    rw [ms_sum, ms_ct]
    by_cases c : 0 < w n
    · rw [if_pos (by simp [c]), Int.mul_add, Int.mul_one]
      omega
    · rw [if_neg (by simp [c]), Int.add_zero]
      omega
theorem ms_sum_r {much : Int} {w : Nat → Int} {n : Nat} (h : ms_sz much w n) (hs : 0 < ms_sum w n) : ∀ k : Nat, k ≤ n → ms_sum w n * ms_sum (ms_fl much w n) k + ms_sum (ms_rm much w n) k = much * ms_sum w k
  | 0, _ => by simp [ms_sum]
  | k + 1, hk => by
    have i := ms_sum_r h hs k (by omega)
    have f := ms_sz_f h hs (k := k) (by omega)
    rw [show ms_sum (ms_fl much w n) (k + 1) = ms_sum (ms_fl much w n) k + ms_fl much w n k from rfl, show ms_sum w (k + 1) = ms_sum w k + w k from rfl, show ms_sum (ms_rm much w n) (k + 1) = ms_sum (ms_rm much w n) k + ms_rm much w n k from rfl, Int.mul_add, Int.mul_add]
    omega
/-- what is left over goes to such as lost something -/
theorem ms_rs_p {much : Int} {w : Nat → Int} {n : Nat} (h : ms_sz much w n) (hs : 0 < ms_sum w n) : ms_rs much w n ≤ ms_ct (fun k => decide (0 < ms_rm much w n k)) n := by
  have a := ms_sum_r h hs n (Nat.le_refl _)
  have b := ms_pos (w := ms_rm much w n) (a := ms_sum w n) (by omega) n (fun k hk => by
    have := ms_sz_f h hs hk
    omega)
  have c : ms_sum w n * ms_rs much w n = ms_sum (ms_rm much w n) n := by
    unfold ms_rs
    rw [Int.mul_sub, Int.mul_comm _ much]
    omega
  rw [← c] at b
  exact Int.le_of_mul_le_mul_left b hs
theorem ms_same {much : Int} {w : Nat → Int} {n : Nat} (h : ms_sz much w n) (hs : 0 < ms_sum w n) {m : Nat → Bool} (hm : ∀ k, k < n → m k = false → w k = 0) {k : Nat} (hk : k < n) : (ms_rq m (ms_rm much w n) n k < ms_rs much w n ↔ ms_rk (ms_rm much w n) k n < ms_rs much w n) := by
  have p := ms_rs_p h hs
  have z : ∀ j, j < n → m j = false → ms_rm much w n j = 0 := fun j hj e => by
    unfold ms_rm
    rw [hm j hj e, Int.mul_zero, Int.zero_emod]
  rw [ms_rk_e]
  unfold ms_rq
  by_cases c : 0 < ms_rm much w n k
  · rw [ms_ct_c (p := fun o => m o && ms_bf (ms_rm much w n) o k) (q := fun o => ms_bf (ms_rm much w n) o k) n (fun o ho => by
      by_cases d : m o = true
      · rw [d, Bool.true_and]
      · have d := Bool.eq_false_iff.mpr d
        have e := z o ho d
        have : ¬ (ms_bf (ms_rm much w n) o k = true) := fun x => by
          have := ms_bf_e.mp x
          omega
        rw [d, Bool.false_and, Bool.eq_false_iff.mpr this])]
  · have f := ms_sz_f h hs hk
    have q1 := ms_ct_m (p := fun k => decide (0 < ms_rm much w n k)) (q := fun o => m o && ms_bf (ms_rm much w n) o k) n (fun o ho x => by
      simp only [decide_eq_true_eq] at x
      have d : m o = true := by
        by_cases d : m o = true
        · exact d
        · have := z o ho (Bool.eq_false_iff.mpr d)
          omega
      simp only [d, Bool.true_and]
      exact ms_bf_e.mpr (by omega))
    have q2 := ms_ct_m (p := fun k => decide (0 < ms_rm much w n k)) (q := fun o => ms_bf (ms_rm much w n) o k) n (fun o ho x => by
      simp only [decide_eq_true_eq] at x
      exact ms_bf_e.mpr (by omega))
    omega
