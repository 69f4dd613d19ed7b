/-! sets of lines: half, agree -/
def ms_lx (a b : Int) : Prop := ms_pp a < ms_pp b ∨ (ms_pp a = ms_pp b ∧ a ≤ b)
def ms_mn (V : Int → Bool) (A b : Int) : Prop := (b = A ∨ (V b = true ∧ 0 ≤ b ∧ b < 512)) ∧ ms_lx b A ∧ ∀ s, 0 ≤ s → s < 512 → V s = true → ms_lx b s
theorem ms_lx_a {a b : Int} (h : ms_lx a b) (g : ms_lx b a) : a = b := by
  unfold ms_lx at h g
  omega
theorem ms_mn_u {V : Int → Bool} {A b c : Int} (h : ms_mn V A b) (g : ms_mn V A c) : b = c := by
  refine ms_lx_a ?_ ?_
  · rcases g.1 with e | e
    · rw [e]
      exact h.2.1
    · exact h.2.2 c e.2.1 e.2.2 e.1
  · rcases h.1 with e | e
    · rw [e]
      exact g.2.1
    · exact g.2.2 b e.2.1 e.2.2 e.1
def ms_upl (V : Int → Bool) : Nat → Int → Int → Int
  | 0, _, b => b
  | m + 1, s, b => ms_upl V m (s + 1) (if V s = true ∧ ms_pp s < ms_pp b then s else b)
def ms_dnl (V : Int → Bool) (o : Int) : Nat → Int → Int
  | 0, b => b
  | m + 1, b => ms_dnl V o m (if V ((m : Int) + o) = true ∧ ms_pp ((m : Int) + o) ≤ ms_pp b then (m : Int) + o else b)
theorem ms_upl_p {V : Int → Bool} {A : Int} (hv : ∀ s, 0 ≤ s → s < 512 → V s = true → s ≤ A ∧ (ms_pp s = ms_pp A → s = A)) : ∀ (m : Nat) (s b : Int), s + m = 512 → 0 ≤ s → (b = A ∨ (V b = true ∧ 0 ≤ b ∧ b < s)) → ms_lx b A → (∀ t, 0 ≤ t → t < s → V t = true → ms_lx b t) → ms_mn V A (ms_upl V m s b) := by
  intro m
  induction m with
  | zero =>
    intro s b hs h0 h1 h2 h3
    rw [ms_upl]
    refine ⟨?_, h2, fun t x y z => h3 t x (by omega) z⟩
    rcases h1 with h1 | h1
    · exact Or.inl h1
    · exact Or.inr ⟨h1.1, h1.2.1, by omega⟩
  | succ m ih =>
    intro s b hs h0 h1 h2 h3
    rw [ms_upl]
    by_cases c : V s = true ∧ ms_pp s < ms_pp b
    · rw [if_pos c]
      refine ih (s + 1) s (by omega) (by omega) (Or.inr ⟨c.1, h0, by omega⟩) ?_ (fun t x y z => ?_)
      · unfold ms_lx at h2 ⊢
        omega
      · by_cases e : t = s
        · subst e
          exact Or.inr ⟨rfl, Int.le_refl _⟩
        · have := h3 t x (by omega) z
          unfold ms_lx at this ⊢
          omega
    · rw [if_neg c]
      refine ih (s + 1) b (by omega) (by omega) ?_ h2 (fun t x y z => ?_)
      · rcases h1 with h1 | h1
        · exact Or.inl h1
        · exact Or.inr ⟨h1.1, h1.2.1, by omega⟩
      · by_cases e : t = s
        · subst e
          have n : ¬ ms_pp t < ms_pp b := fun q => c ⟨z, q⟩
          have v := hv t x (by omega) z
          unfold ms_lx
          rcases h1 with h1 | h1
          · subst h1
            by_cases q : ms_pp t = ms_pp b
            · have := v.2 q
              omega
            · omega
          · omega
        · exact h3 t x (by omega) z
theorem ms_dnl_p {V : Int → Bool} {A : Int} {o : Int} (ho : 0 ≤ o) (hA : 0 ≤ A ∧ A < 512) (hv : ∀ s, 0 ≤ s → s < 512 → V s = true → s ≤ A) : ∀ (m : Nat) (b : Int), (m : Int) + o ≤ 512 → (b = A ∨ (V b = true ∧ 0 ≤ b ∧ b < 512)) → ms_lx b A → (∀ t, (m : Int) + o ≤ t → t < 512 → V t = true → ms_lx b t) → (∀ t, 0 ≤ t → t < o → V t = false) → ms_mn V A (ms_dnl V o m b) := by
  intro m
  induction m with
  | zero =>
    intro b hm h1 h2 h3 h4
    rw [ms_dnl]
    refine ⟨h1, h2, fun t x y z => ?_⟩
    by_cases e : t < o
    · rw [h4 t x e] at z
      exact absurd z (by simp)
    · exact h3 t (by omega) y z
  | succ m ih =>
    intro b hm h1 h2 h3 h4
    push_cast at hm h3
    rw [ms_dnl]
    by_cases c : V ((m : Int) + o) = true ∧ ms_pp ((m : Int) + o) ≤ ms_pp b
    · rw [if_pos c]
      have v := hv ((m : Int) + o) (by omega) (by omega) c.1
      refine ih _ (by omega) (Or.inr ⟨c.1, by omega, by omega⟩) ?_ (fun t x y z => ?_) h4
      · unfold ms_lx at h2 ⊢
        omega
      · by_cases e : t = (m : Int) + o
        · rw [e]
          exact Or.inr ⟨rfl, Int.le_refl _⟩
        · have := h3 t (by omega) y z
          unfold ms_lx at this ⊢
          omega
    · rw [if_neg c]
      refine ih b (by omega) h1 h2 (fun t x y z => ?_) h4
      by_cases e : t = (m : Int) + o
      · have n : ¬ ms_pp t ≤ ms_pp b := fun q => c ⟨by rw [← e]; exact z, by rw [← e]; exact q⟩
        unfold ms_lx
        omega
      · exact h3 t (by omega) y z
theorem ms_upl_b {V : Int → Bool} : ∀ (m : Nat) (s b : Int), (0 ≤ s ∧ s + m ≤ 512) → (0 ≤ b ∧ b < 512) → 0 ≤ ms_upl V m s b ∧ ms_upl V m s b < 512
  | 0, _, _, _, h => h
  | m + 1, s, b, hs, h => by
    rw [ms_upl]
    refine ms_upl_b m (s + 1) _ (by omega) ?_
    split <;> omega
/-- how many a set has -/
theorem ms_pb : ∀ b0 b1 b2 b3 b4 b5 b6 b7 b8 : Bool, ms_pp (ms_x9 b0 b1 b2 b3 b4 b5 b6 b7 b8) = (((((((((0 + (if b0 = true then 1 else 0)) + (if b1 = true then 1 else 0)) + (if b2 = true then 1 else 0)) + (if b3 = true then 1 else 0)) + (if b4 = true then 1 else 0)) + (if b5 = true then 1 else 0)) + (if b6 = true then 1 else 0)) + (if b7 = true then 1 else 0)) + (if b8 = true then 1 else 0)) := by decide +kernel
theorem ms_pp_c {p : Nat → Bool} : ms_pp (ms_bt p 9) = ms_ct p 9 := by
  rw [ms_x9_e, ms_pb]
  rfl
theorem ms_bt_m {p q : Nat → Bool} : ∀ n, (∀ i, i < n → p i = true → q i = true) → ms_bt p n ≤ ms_bt q n
  | 0, _ => Int.le_refl _
  | n + 1, h => by
    have a := ms_bt_m n (fun i hi => h i (by omega))
    have b := h n (by omega)
    have e : (0 : Int) < 2 ^ n := by
      have := ms_bt_lt (p := p) n
      omega
    rw [ms_bt, ms_bt]
    by_cases c : p n = true
    · rw [if_pos c, if_pos (b c)]
      omega
    · rw [if_neg c]
      split <;> omega
/-- a subset -/
theorem ms_sb {s : Int} (hs : 0 ≤ s ∧ s < 512) {q : Nat → Bool} (h : sd_and s (sd_xor (ms_bt q 9) (-1)) = 0) : s ≤ ms_bt q 9 ∧ (ms_pp s = ms_pp (ms_bt q 9) → s = ms_bt q 9) := by
  obtain ⟨p, rfl, hp⟩ := ms_in9 (x := s) ⟨by omega, by omega⟩ h
  refine ⟨ms_bt_m 9 hp, fun e => ?_⟩
  rw [ms_pp_c, ms_pp_c] at e
  refine ms_bt_c 9 (fun i hi => ?_)
  cases a : p i
  · cases b : q i
    · rfl
    · have := ms_ct_s (p := p) (q := q) (j := i) ⟨a, b⟩ 9 hp hi
      omega
  · exact (hp i hi a).symm
def ms_vh (S : Nat → Int) (A whole s : Int) : Bool := decide (sd_and s (sd_xor A (-1)) = 0) && decide (whole < 2 * ms_sum (ms_so S (fun i => s.toNat.testBit i)) 9)
theorem ms_vh_t {S : Nat → Int} {A whole s : Int} (c : sd_and s (sd_xor A (-1)) = 0) (e : whole < 2 * ms_sum (ms_so S (fun i => s.toNat.testBit i)) 9) : ms_vh S A whole s = true := by
  unfold ms_vh
  rw [decide_eq_true c, decide_eq_true e]
  rfl
theorem ms_vh_i {S : Nat → Int} {A whole s : Int} (h : ms_vh S A whole s = true) : sd_and s (sd_xor A (-1)) = 0 ∧ whole < 2 * ms_sum (ms_so S (fun i => s.toNat.testBit i)) 9 := by
  unfold ms_vh at h
  rw [Bool.and_eq_true] at h
  exact ⟨of_decide_eq_true h.1, of_decide_eq_true h.2⟩
theorem ms_so_b {S : Nat → Int} (h : ms_ok S) (p : Nat → Bool) : 0 ≤ ms_sum (ms_so S p) 9 ∧ ms_sum (ms_so S p) 9 ≤ 8991 := by
  have := ms_sum_b (w := ms_so S p) (a := 0) (b := 999) 9 (fun j _ => by
    have := ms_sg_b h (j : Int)
    unfold ms_so
    split <;> omega)
  omega
theorem cl_so {M : sd_M} {S : Nat → Int} (ok : ms_ok S) (bk : cl_bk M 66 S) {s : Int} (hs : 0 ≤ s ∧ s < 512) : f_X0_signedOf 66 s M = some (ms_sum (ms_so S (fun i => s.toNat.testBit i)) 9, M) := by
  have := cl_signedOf ok bk.2.2 (fun i => s.toNat.testBit i)
  rw [← ms_as hs] at this
  exact this
theorem rf_so {M : sd_M} (ok : ms_ok (M 341)) (sn : ∀ j : Nat, (j : Int) < M 341 60 → M 344 j = ms_sk (M 341) j) {s : Int} (hs : 0 ≤ s ∧ s < 512) : f_X10_signedBy s M = some (ms_sum (ms_so (M 341) (fun i => s.toNat.testBit i)) 9, M) := by
  have := rf_signedBy ok sn (fun i => s.toNat.testBit i)
  rw [← ms_as hs] at this
  exact this
theorem cl_half_l {M : sd_M} {S : Nat → Int} (ok : ms_ok S) (bk : cl_bk M 66 S) (A whole w : Int) : ∀ (m fu : Nat) (s b : Int), s + m = 512 → m < fu → 1 ≤ s → (0 ≤ b ∧ b < 512) → f_X9_half_70 f_X9_half_128 fu w A whole b s M = f_X9_half_128 w (ms_upl (ms_vh S A whole) m s b) M := by
  intro m
  induction m with
  | zero =>
    intro fu s b hs hf h1 hb
    obtain ⟨fu, rfl⟩ : ∃ g, fu = g + 1 := ⟨fu - 1, by omega⟩
    rw [f_X9_half_70, if_pos (by omega)]
    rfl
  | succ m ih =>
    intro fu s b hs hf h1 hb
    obtain ⟨fu, rfl⟩ : ∃ g, fu = g + 1 := ⟨fu - 1, by omega⟩
    have so := ms_so_b ok (fun i => s.toNat.testBit i)
    rw [f_X9_half_70, if_neg (by omega), ms_upl, cl_bitCount (by omega), Option.bind_some]
    simp only [f_X9_half_122, sd_wid (z := s + 1) (by omega) (by omega)]
    rw [cl_bitCount (by omega), Option.bind_some]
    simp only []
    rw [cl_so ok bk (by omega), Option.bind_some]
    simp only []
    rw [sd_wid (by omega) (by omega)]
    have ub := ih fu (s + 1) b (by omega) (by omega) (by omega) hb
    have us := ih fu (s + 1) s (by omega) (by omega) (by omega) (by omega)
    by_cases c : sd_and s (sd_xor A (-1)) = 0
    · rw [if_pos c]
      by_cases d : ms_pp s < ms_pp b
      · rw [if_neg (by omega)]
        by_cases e : whole < 2 * ms_sum (ms_so S (fun i => s.toNat.testBit i)) 9
        · rw [if_neg (by omega), if_pos ⟨ms_vh_t c e, d⟩]
          exact us
        · rw [if_pos (by omega), if_neg (fun x => e (ms_vh_i x.1).2)]
          exact ub
      · rw [if_pos (by omega), if_neg (fun x => d x.2)]
        exact ub
    · rw [if_neg c, if_neg (fun x => c (ms_vh_i x.1).1)]
      exact ub
theorem rf_half_l {M : sd_M} (ok : ms_ok (M 341)) (sn : ∀ j : Nat, (j : Int) < M 341 60 → M 344 j = ms_sk (M 341) j) (A whole w : Int) : ∀ (m fu : Nat) (b : Int), m < 512 → m < fu → (0 ≤ b ∧ b < 512) → f_X10_half_51 f_X10_half_100 fu w A whole b (m : Int) M = f_X10_half_100 w (ms_dnl (ms_vh (M 341) A whole) 1 m b) M := by
  intro m
  induction m with
  | zero =>
    intro fu b hm hf hb
    obtain ⟨fu, rfl⟩ : ∃ g, fu = g + 1 := ⟨fu - 1, by omega⟩
    rw [f_X10_half_51, if_pos (by omega)]
    rfl
  | succ m ih =>
    intro fu b hm hf hb
    obtain ⟨fu, rfl⟩ : ∃ g, fu = g + 1 := ⟨fu - 1, by omega⟩
    push_cast
    have so := ms_so_b ok (fun i => ((m : Int) + 1).toNat.testBit i)
    rw [f_X10_half_51, if_neg (by omega), ms_dnl, rf_so ok sn (by omega), Option.bind_some]
    simp only [f_X10_half_94, sd_wid (z := (m : Int) + 1 + (-1)) (by omega) (by omega)]
    rw [rf_bits (by omega), Option.bind_some]
    simp only []
    rw [rf_bits (by omega), Option.bind_some]
    simp only []
    rw [sd_wid (by omega) (by omega), show (m : Int) + 1 + (-1) = m by omega]
    have ub := ih fu b (by omega) (by omega) hb
    have us := ih fu ((m : Int) + 1) (by omega) (by omega) (by omega)
    by_cases c : sd_and ((m : Int) + 1) (sd_xor A (-1)) = 0
    · rw [if_pos c]
      by_cases e : whole < 2 * ms_sum (ms_so (M 341) (fun i => ((m : Int) + 1).toNat.testBit i)) 9
      · rw [if_neg (by omega)]
        by_cases d : ms_pp ((m : Int) + 1) ≤ ms_pp b
        · rw [if_neg (by omega), if_pos ⟨ms_vh_t c e, d⟩]
          exact us
        · rw [if_pos (by omega), if_neg (fun x => d x.2)]
          exact ub
      · rw [if_pos (by omega), if_neg (fun x => e (ms_vh_i x.1).2)]
        exact ub
    · rw [if_neg c, if_neg (fun x => c (ms_vh_i x.1).1)]
      exact ub
theorem sp_half : sd_S1 sd_Iv f_X9_half f_X10_half := iv_q1 (fun M h w hw => by
  have ok := iv_ok h
  have l := ms_lines ok
  have sp := iv_sp h
  have bk := iv_bk h
  by_cases c : M 341 0 = 1
  · by_cases d : 0 ≤ w ∧ w ≤ 1
    · by_cases g : 1 ≤ M 341 60
      · have on := ms_on_b (S := M 341) (w := 1)
        have same : ms_upl (ms_vh (M 341) (ms_on (M 341) 1) (ms_sa (M 341))) 511 1 (ms_on (M 341) 1) = ms_dnl (ms_vh (M 341) (ms_on (M 341) 1) (ms_sa (M 341))) 1 (ms_on (M 341) 1 - 1).toNat (ms_on (M 341) 1) := by
          have hv : ∀ s, 0 ≤ s → s < 512 → ms_vh (M 341) (ms_on (M 341) 1) (ms_sa (M 341)) s = true → s ≤ ms_on (M 341) 1 ∧ (ms_pp s = ms_pp (ms_on (M 341) 1) → s = ms_on (M 341) 1) := fun s x y z => by
            have z2 : sd_and s (sd_xor (ms_on (M 341) 1) (-1)) = 0 := by
              unfold ms_vh at z
              rw [Bool.and_eq_true] at z
              exact of_decide_eq_true z.1
            exact ms_sb ⟨x, y⟩ z2
          have v0 : ∀ t : Int, 0 ≤ t → t < 1 → ms_vh (M 341) (ms_on (M 341) 1) (ms_sa (M 341)) t = false := fun t x y => by
            have t0 : t = 0 := by omega
            have so := ms_so_b ok (ms_at (M 341) 1)
            have z : ms_sum (ms_so (M 341) (fun i => t.toNat.testBit i)) 9 = 0 := by
              subst t0
              exact (ms_sum_c 9 (fun k _ => by simp [ms_so])).trans (ms_sum_z 9)
            have n : ¬ (ms_sa (M 341) < 2 * ms_sum (ms_so (M 341) (fun i => t.toNat.testBit i)) 9) := by
              rw [z]
              unfold ms_sa
              omega
            unfold ms_vh
            rw [decide_eq_false n, Bool.and_false]
          have rl : ms_lx (ms_on (M 341) 1) (ms_on (M 341) 1) := Or.inr ⟨rfl, Int.le_refl _⟩
          refine ms_mn_u (ms_upl_p hv 511 1 _ (by omega) (by omega) (Or.inl rfl) rl (fun t x y z => ?_)) (ms_dnl_p (by omega) on (fun s x y z => (hv s x y z).1) _ _ (by omega) (Or.inl rfl) rl (fun t x y z => ?_) v0)
          · rw [v0 t x y] at z
            exact absurd z (by simp)
          · by_cases q : t = 0
            · rw [v0 t (by omega) (by omega)] at z
              exact absurd z (by simp)
            · have := (hv t (by omega) y z).1
              rw [show t = ms_on (M 341) 1 by omega]
              exact rl
        have bb := ms_upl_b (V := ms_vh (M 341) (ms_on (M 341) 1) (ms_sa (M 341))) 511 1 (ms_on (M 341) 1) (by omega) on
        refine ⟨if w = 0 then ms_pp (ms_upl (ms_vh (M 341) (ms_on (M 341) 1) (ms_sa (M 341))) 511 1 (ms_on (M 341) 1)) else ms_upl (ms_vh (M 341) (ms_on (M 341) 1) (ms_sa (M 341))) 511 1 (ms_on (M 341) 1), ?_, fun N hN q => ?_⟩
        · unfold f_X9_half
          rw [if_neg (by omega), if_neg (by omega), if_pos (by omega), bk.1.1.2.2.1, if_pos g, cl_lineBits ok bk.1, Option.bind_some]
          simp only []
          have s1 : f_X0_signedOf 66 (ms_on (M 341) 1) M = some (ms_sa (M 341), M) := cl_signedOf ok bk.2.2 (ms_at (M 341) 1)
          rw [s1, Option.bind_some]
          simp only []
          rw [cl_half_l ok bk _ _ w 511 4000 1 _ (by omega) (by omega) (by omega) on]
          unfold f_X9_half_128
          by_cases w0 : w = 0
          · rw [if_pos w0, if_pos w0, cl_bitCount bb, Option.bind_some]
            exact ms_t_r ⟨rfl, cl_qf_rf⟩
          · rw [if_neg w0, if_neg w0]
            exact ms_t_r ⟨rfl, cl_qf_rf⟩
        · have e : N 341 = M 341 := cl_qf_hi q (by omega)
          unfold f_X10_half
          rw [rf_sl1 (by rw [e]; exact c), Option.bind_some]
          simp only []
          rw [if_neg (by omega), rf_in1 d, Option.bind_some]
          simp only []
          rw [if_neg (by omega), e, if_neg (by omega), rf_onesAt (iv_ok hN), Option.bind_some, e]
          simp only []
          refine ms_t_b (rf_signedAll (iv_ok hN)) (fun v K hK => ?_)
          simp only []
          have eK : K 341 = M 341 := by rw [rf_f_41 hK.2.1, e]
          rw [e] at hK
          have sn : ∀ j : Nat, (j : Int) < K 341 60 → K 344 j = ms_sk (K 341) j := by
            rw [eK]
            exact hK.2.2
          have on1 : 1 ≤ ms_on (M 341) 1 := by
            have ln := ms_ln ok (k := 0) (by omega)
            have x := ms_bt_nz (p := ms_at (M 341) 1) 9
            by_cases z : ms_on (M 341) 1 = 0
            · have y := x z (M 341 (89 + 0)).toNat (by omega)
              have i1 : ((M 341 (89 + 0)).toNat : Int) < M 341 2 := by omega
              rw [ms_at_t i1 ln.2] at y
              exact absurd y (by simp)
            · omega
          have r := rf_half_l (M := K) (by rw [eK]; exact ok) sn (ms_on (M 341) 1) (ms_sa (M 341)) w (ms_on (M 341) 1 - 1).toNat 4000 (ms_on (M 341) 1) (by omega) (by omega) on
          rw [Int.toNat_of_nonneg (by omega), eK, ← same] at r
          rw [hK.1, sd_wid (by omega) (by omega), r]
          unfold f_X10_half_100
          by_cases w0 : w = 0
          · rw [if_pos w0, if_pos w0, rf_bits bb, Option.bind_some]
            exact ms_t_r ⟨rfl, rf_q_f hK.2.1⟩
          · rw [if_neg w0, if_neg w0]
            exact ms_t_r ⟨rfl, rf_q_f hK.2.1⟩
      · refine ⟨-2, ?_, fun N hN q => ?_⟩
        · unfold f_X9_half
          rw [if_neg (by omega), if_neg (by omega), if_pos (by omega), bk.1.1.2.2.1, if_neg g]
          exact ms_t_r ⟨rfl, cl_qf_rf⟩
        · have e : N 341 = M 341 := cl_qf_hi q (by omega)
          unfold f_X10_half
          rw [rf_sl1 (by rw [e]; exact c), Option.bind_some]
          simp only []
          rw [if_neg (by omega), rf_in1 d, Option.bind_some]
          simp only []
          rw [if_neg (by omega), e, if_pos (by omega)]
          exact ms_t_r ⟨rfl, rf_q_rf⟩
    · refine ⟨-1, ?_, fun N hN q => ?_⟩
      · unfold f_X9_half
        rw [if_neg (by omega)]
        by_cases g : w < 0
        · rw [if_pos g]
          exact ms_t_r ⟨rfl, cl_qf_rf⟩
        · rw [if_neg g, if_neg (by omega)]
          exact ms_t_r ⟨rfl, cl_qf_rf⟩
      · unfold f_X10_half
        rw [rf_sl1 (by rw [cl_qf_hi q (show 331 ≤ 341 by omega)]; exact c), Option.bind_some]
        simp only []
        rw [if_neg (by omega), rf_in0 d, Option.bind_some]
        exact ms_t_r ⟨rfl, rf_q_rf⟩
  · refine ⟨-1, ?_, fun N hN q => ?_⟩
    · unfold f_X9_half
      rw [if_pos (by omega)]
      exact ms_t_r ⟨rfl, cl_qf_rf⟩
    · unfold f_X10_half
      rw [rf_sl0 (by rw [cl_qf_hi q (show 331 ≤ 341 by omega)]; exact c), Option.bind_some]
      exact ms_t_r ⟨rfl, rf_q_rf⟩)
