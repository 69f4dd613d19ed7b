/-! how much is signed at most; what several have signed, together -/
theorem ms_at_t {S : Nat → Int} {w : Int} {f : Nat} (h1 : (f : Int) < S 2) (h2 : S (71 + f) = w) : ms_at S w f = true := by
  unfold ms_at
  rw [decide_eq_true h1, decide_eq_true h2]
  rfl
theorem ms_sum_k {w : Nat → Int} {n k : Nat} (h : ∀ j, j < n → 0 ≤ w j) (hk : k < n) : w k ≤ ms_sum w n := by
  have a : ms_sum w k + w k ≤ ms_sum w n := ms_sum_mono h (k + 1) (by omega)
  have b : 0 ≤ ms_sum w k := ms_sum_mono (w := w) (n := k) (fun j hj => h j (by omega)) 0 (by omega)
  omega
theorem ms_sum_x {w : Nat → Int} : ∀ n, 0 < ms_sum w n → ∃ k, k < n ∧ 0 < w k
  | 0, h => absurd h (by rw [ms_sum]; omega)
  | n + 1, h => by
    by_cases c : 0 < w n
    · exact ⟨n, by omega, c⟩
    · rw [ms_sum] at h
      obtain ⟨k, hk, e⟩ := ms_sum_x (w := w) n (by omega)
      exact ⟨k, by omega, e⟩
theorem ms_pt_b {much : Int} {w : Nat → Int} {n k : Nat} (h : ms_sz much w n) (hs : 0 < ms_sum w n) (hk : k < n) : 0 ≤ ms_pt much w n k ∧ ms_pt much w n k ≤ much := by
  have f := (ms_sz_f h hs hk).1
  have r := ms_rs_0 h hs
  have q := (ms_rk_b (r := ms_rm much w n) (k := k) n).1
  have g := ms_sum_k (w := ms_fl much w n) (fun j hj => (ms_sz_f h hs hj).1.1) hk
  unfold ms_pt
  rw [if_neg (by omega)]
  unfold ms_rs at *
  split <;> omega
theorem ms_pt_w {much : Int} {w : Nat → Int} {n k : Nat} (h : ms_sz much w n) (hm : much < ms_sum w n) (hk : k < n) (hw : 0 < w k) : ms_pt much w n k ≤ w k := by
  have m0 := h.1.2.1
  have hs : 0 < ms_sum w n := by omega
  have f := ms_sz_f h hs hk
  have a : much * w k < ms_sum w n * w k := Int.mul_lt_mul_of_pos_right hm hw
  have b : ms_sum w n * ms_fl much w n k < ms_sum w n * w k := by omega
  have c : ms_fl much w n k < w k := Int.lt_of_mul_lt_mul_left b (by omega)
  unfold ms_pt
  rw [if_neg (by omega)]
  split <;> omega
theorem ms_sk_b {S : Nat → Int} (h : ms_ok S) {k : Nat} (hk : (k : Int) < S 60) : 0 ≤ ms_sk S k ∧ ms_sk S k ≤ S (62 + (S (89 + k)).toNat) ∧ ms_sk S k ≤ S 59 := by
  have l := ms_lines h
  have a := ms_line h hk
  have z := ms_szw h
  have w := ms_wt_b h hk
  have f := ms_lf_b h k (by omega)
  have f2 := ms_lf_b h (S 60).toNat (by omega)
  have wk : ms_wt S k ≤ ms_al S := ms_sum_k (w := ms_wt S) (fun j hj => (ms_wt_b h (k := j) (by omega)).1) (by omega)
  have w2 : ms_wt S k ≤ 0 ∨ ms_wt S k = S (62 + (S (89 + k)).toNat) := by
    unfold ms_wt
    split
    · exact Or.inl (Int.le_refl _)
    · exact Or.inr rfl
  unfold ms_sk
  by_cases c : ms_wt S k ≤ 0
  · rw [if_pos c]
    have e : S (62 + (S (89 + k)).toNat) ≤ ms_lf S k := by
      unfold ms_wt at c
      by_cases d : S (13 + (S (89 + k)).toNat) = 1 ∧ S (62 + (S (89 + k)).toNat) ≤ ms_lf S k
      · exact d.2
      · rw [if_neg d] at c
        omega
    omega
  · rw [if_neg c]
    by_cases d : ms_al S ≤ ms_le S
    · rw [if_pos d]
      unfold ms_le at d
      omega
    · rw [if_neg d]
      have p := ms_pt_b z (by unfold ms_al at wk; omega) (k := k) (by omega)
      have p2 := ms_pt_w z (k := k) (by unfold ms_al at d; omega) (by omega) (by omega)
      unfold ms_le at *
      omega
theorem ms_sg_b {S : Nat → Int} (h : ms_ok S) (f : Int) : 0 ≤ ms_sg S f ∧ ms_sg S f ≤ 999 ∧ ms_sg S f ≤ S 59 ∧ ((0 ≤ f ∧ f < S 2) → ms_sg S f ≤ S (62 + f.toNat)) := by
  have o := h.2.2.1
  unfold ms_sg
  by_cases c : (0 ≤ f ∧ f < S 2) ∧ S (71 + f.toNat) = 1
  · rw [if_pos c]
    have p := ms_po_l h c
    have b := ms_sk_b h p.1
    rw [p.2] at b
    omega
  · rw [if_neg c]
    refine ⟨by omega, by omega, by omega, fun d => ?_⟩
    have := h.2.2.2.1 f.toNat (by omega)
    omega
/-- something is signed, if there are lines -/
theorem ms_sk_x {S : Nat → Int} (h : ms_ok S) (h1 : 1 ≤ S 60) (h59 : 1 ≤ S 59) : ∃ k : Nat, (k : Int) < S 60 ∧ 1 ≤ ms_sk S k := by
  have l := ms_lines h
  have z := ms_szw h
  by_cases c : ∃ k : Nat, (k : Int) < S 60 ∧ ms_wt S k ≤ 0
  · obtain ⟨k, hk, e⟩ := c
    have a := ms_line h hk
    refine ⟨k, hk, ?_⟩
    unfold ms_sk
    rw [if_pos e]
    omega
  · have c2 : ∀ k : Nat, (k : Int) < S 60 → 0 < ms_wt S k := fun k hk => by
      by_cases d : ms_wt S k ≤ 0
      · exact absurd ⟨k, hk, d⟩ c
      · omega
    have lf : ∀ k : Nat, (k : Int) ≤ S 60 → ms_lf S k = S 59 := by
      intro k
      induction k with
      | zero => intro _; rfl
      | succ k ih =>
        intro hk
        have d := c2 k (by omega)
        rw [ms_lf_s, ih (by omega)]
        unfold ms_wt at d
        unfold ms_s0
        by_cases e : S (13 + (S (89 + k)).toNat) = 1 ∧ S (62 + (S (89 + k)).toNat) ≤ ms_lf S k
        · rw [if_pos e] at d
          omega
        · rw [if_neg e]
          omega
    have le : ms_le S = S 59 := lf _ (by omega)
    by_cases d : ms_al S ≤ ms_le S
    · refine ⟨0, by omega, ?_⟩
      have := c2 0 (by omega)
      unfold ms_sk
      rw [if_neg (by omega), if_pos d]
      omega
    · have hs : 0 < ms_sum (ms_wt S) (S 60).toNat := by
        unfold ms_al at d
        omega
      have key : ∃ k : Nat, k < (S 60).toNat ∧ 1 ≤ ms_pt (ms_le S) (ms_wt S) (S 60).toNat k := by
        have r0 := ms_rs_0 z hs
        by_cases e : ms_rs (ms_le S) (ms_wt S) (S 60).toNat ≤ 0
        · obtain ⟨k, hk, g⟩ := ms_sum_x (w := ms_fl (ms_le S) (ms_wt S) (S 60).toNat) (S 60).toNat (by unfold ms_rs at e; omega)
          refine ⟨k, hk, ?_⟩
          unfold ms_pt
          rw [if_neg (by omega)]
          split <;> omega
        · rcases ms_lm_p (u := fun _ => true) (r := ms_rm (ms_le S) (ms_wt S) (S 60).toNat) (S 60).toNat (fun k hk => (ms_sz_f z hs hk).2.1.1) with g | ⟨p, g1, g2, g3, g4, g5⟩
          · exact absurd (g.2.2 0 (by omega)) (by simp)
          · refine ⟨p, g1, ?_⟩
            have rk : ms_rk (ms_rm (ms_le S) (ms_wt S) (S 60).toNat) p (S 60).toNat = 0 := by
              rw [ms_rk_e]
              refine ms_ct_z _ (fun o ho => ?_)
              cases q : ms_bf (ms_rm (ms_le S) (ms_wt S) (S 60).toNat) o p
              · rfl
              · have q2 := ms_bf_e.mp q
                by_cases op : o = p
                · subst op
                  omega
                · have q3 := ms_bf_e.mp (g5 o ho rfl op)
                  omega
            have f0 := (ms_sz_f z hs g1).1.1
            unfold ms_pt
            rw [if_neg (by omega), rk, if_pos (by omega)]
            omega
      obtain ⟨k, hk, e⟩ := key
      refine ⟨k, by omega, ?_⟩
      have := c2 k (by omega)
      unfold ms_sk
      rw [if_neg (by omega), if_neg d]
      exact e
/-! sums by offers, by places -/
def ms_sp (S : Nat → Int) (p : Nat → Bool) : Nat → Int := fun k => if p (S (89 + k)).toNat = true then ms_sk S k else 0
def ms_so (S : Nat → Int) (p : Nat → Bool) : Nat → Int := fun f => if p f = true then ms_sg S (f : Int) else 0
def ms_gf (g : Nat → Nat) (w : Nat → Int) (f : Nat) : Nat → Int
  | 0 => 0
  | j + 1 => ms_gf g w f j + if g j = f then w j else 0
theorem ms_gf_0 {g : Nat → Nat} {w : Nat → Int} {f : Nat} : ∀ n, (∀ k, k < n → g k ≠ f) → ms_gf g w f n = 0
  | 0, _ => rfl
  | n + 1, h => by rw [ms_gf, ms_gf_0 n (fun k hk => h k (by omega)), if_neg (h n (by omega))]; rfl
theorem ms_gf_1 {g : Nat → Nat} {w : Nat → Int} {f k : Nat} (hk : g k = f) : ∀ n, (∀ j, j < n → g j = f → j = k) → k < n → ms_gf g w f n = w k
  | 0, _, h => absurd h (by omega)
  | n + 1, h, hn => by
    rw [ms_gf]
    by_cases e : k = n
    · subst e
      rw [ms_gf_0 k (fun j hj x => by have := h j (by omega) x; omega), if_pos hk, Int.zero_add]
    · rw [ms_gf_1 hk n (fun j hj x => h j (by omega) x) (by omega), if_neg (fun x => e (h n (by omega) x).symm), Int.add_zero]
theorem ms_sum_a {a b : Nat → Int} : ∀ n, ms_sum (fun k => a k + b k) n = ms_sum a n + ms_sum b n
  | 0 => rfl
  | n + 1 => by
    rw [ms_sum, ms_sum, ms_sum, ms_sum_a n]
    omega
theorem ms_sum_1 {i : Nat} {c : Int} : ∀ n, ms_sum (fun f => if i = f then c else 0) n = if i < n then c else 0
  | 0 => by rw [if_neg (by omega)]; rfl
  | n + 1 => by
    rw [ms_sum, ms_sum_1 n]
    by_cases e : i = n
    · subst e
      rw [if_neg (by omega), if_pos rfl, if_pos (by omega), Int.zero_add]
    · rw [if_neg e, Int.add_zero]
      by_cases d : i < n
      · rw [if_pos d, if_pos (by omega)]
      · rw [if_neg d, if_neg (by omega)]
theorem ms_sum_z : ∀ n, ms_sum (fun _ => 0) n = 0
  | 0 => rfl
  | n + 1 => by
    rw [ms_sum, ms_sum_z n]
    rfl
theorem ms_gf_s {g : Nat → Nat} {w : Nat → Int} : ∀ n, (∀ k, k < n → g k < 9) → ms_sum (fun f => ms_gf g w f n) 9 = ms_sum w n
  | 0, _ => ms_sum_z 9
  | n + 1, h => by
    have e : ms_sum (fun f => ms_gf g w f (n + 1)) 9 = ms_sum (fun f => ms_gf g w f n + (fun f => if g n = f then w n else 0) f) 9 := rfl
    rw [e, ms_sum_a, ms_gf_s n (fun k hk => h k (by omega)), ms_sum_1, if_pos (h n (by omega)), ms_sum]
theorem ms_by {S : Nat → Int} (h : ms_ok S) (p : Nat → Bool) : ms_sum (ms_so S p) 9 = ms_sum (ms_sp S p) (S 60).toNat := by
  have l := ms_lines h
  rw [← ms_gf_s (g := fun k => (S (89 + k)).toNat) (w := ms_sp S p) (S 60).toNat (fun k hk => by
    have a := ms_line h (k := k) (by omega)
    omega)]
  refine ms_sum_c 9 (fun f hf => ?_)
  unfold ms_so
  by_cases c : (0 ≤ (f : Int) ∧ (f : Int) < S 2) ∧ S (71 + f) = 1
  · have c2 : (0 ≤ (f : Int) ∧ (f : Int) < S 2) ∧ S (71 + (f : Int).toNat) = 1 := by
      rw [Int.toNat_natCast]
      exact c
    have q := ms_po_l h c2
    have e : (S (89 + ms_po S (f : Int))).toNat = f := by rw [q.2, Int.toNat_natCast]
    rw [ms_gf_1 (k := ms_po S (f : Int)) e (S 60).toNat (fun j hj x => by
      have a := ms_line h (k := j) (by omega)
      exact (ms_po_e h (k := j) (by omega) (by omega)).symm) (by omega)]
    unfold ms_sp ms_sg
    rw [e, if_pos c2]
  · rw [ms_gf_0 (S 60).toNat (fun k hk x => c (by
      have a := ms_line h (k := k) (by omega)
      rw [x] at a
      exact ⟨by omega, a.2.1⟩))]
    have z : ms_sg S (f : Int) = 0 := by
      unfold ms_sg
      rw [if_neg (by rw [Int.toNat_natCast]; exact c)]
    rw [z]
    split <;> rfl
theorem cl_signedOf_l {M : sd_M} {b : Nat} {S : Nat → Int} (h : ms_ok S) (sn : ∀ f : Nat, f < 9 → M (b + 4) f = ms_sg S (f : Int)) (p : Nat → Bool) : ∀ (m k fu : Nat), k + m = 9 → m < fu → f_X0_signedOf_4 b fu (ms_bt p 9) (ms_sum (ms_so S p) k) (k : Int) M = some (ms_sum (ms_so S p) 9, M) := by
  have bd : ∀ k, k ≤ 9 → 0 ≤ ms_sum (ms_so S p) k ∧ ms_sum (ms_so S p) k ≤ 8991 := fun k hk => by
    have := ms_sum_b (w := ms_so S p) (a := 0) (b := 999) k (fun j _ => by
      have := ms_sg_b h (j : Int)
      unfold ms_so
      split <;> omega)
    omega
  intro m
  induction m with
  | zero =>
    intro k fu hk hf
    obtain ⟨fu, rfl⟩ : ∃ g, fu = g + 1 := ⟨fu - 1, by omega⟩
    rw [f_X0_signedOf_4, if_pos (by omega), show k = 9 by omega]
  | succ m ih =>
    intro k fu hk hf
    obtain ⟨fu, rfl⟩ : ∃ g, fu = g + 1 := ⟨fu - 1, by omega⟩
    have up := ih (k + 1) fu (by omega) (by omega)
    have b1 := bd (k + 1) (by omega)
    rw [ms_sum] at b1 up
    push_cast at up
    have e : ms_so S p k = if p k = true then ms_sg S (k : Int) else 0 := rfl
    rw [f_X0_signedOf_4, if_neg (by omega), ms_btt (by omega)]
    by_cases c : p k = true
    · rw [if_pos c] at e
      rw [if_pos c, if_pos rfl, if_pos (by omega), f_X0_signedOf_28, Int.toNat_natCast, sn k (by omega), ← e, sd_wid (by omega) (by omega), sd_wid (by omega) (by omega)]
      exact up
    · rw [if_neg c] at e
      rw [if_neg c, if_neg (by omega), f_X0_signedOf_28, sd_wid (by omega) (by omega)]
      rw [e, Int.add_zero] at up
      exact up
theorem cl_signedOf {M : sd_M} {b : Nat} {S : Nat → Int} (h : ms_ok S) (sn : ∀ f : Nat, f < 9 → M (b + 4) f = ms_sg S (f : Int)) (p : Nat → Bool) : f_X0_signedOf b (ms_bt p 9) M = some (ms_sum (ms_so S p) 9, M) := cl_signedOf_l h sn p 9 0 4000 (by omega) (by omega)
theorem rf_signedBy_l {M : sd_M} (h : ms_ok (M 341)) (sn : ∀ j : Nat, (j : Int) < M 341 60 → M 344 j = ms_sk (M 341) j) (p : Nat → Bool) : ∀ (m k fu : Nat), (k : Int) + m = M 341 60 → m < fu → f_X10_signedBy_4 fu (ms_bt p 9) (ms_sum (ms_sp (M 341) p) k) (k : Int) M = some (ms_sum (ms_sp (M 341) p) (M 341 60).toNat, M) := by
  have l := ms_lines h
  have bd : ∀ k : Nat, (k : Int) ≤ M 341 60 → 0 ≤ ms_sum (ms_sp (M 341) p) k ∧ ms_sum (ms_sp (M 341) p) k ≤ 8991 := fun k hk => by
    have := ms_sum_b (w := ms_sp (M 341) p) (a := 0) (b := 999) k (fun j hj => by
      have := ms_sk_b h (k := j) (by omega)
      have := ms_line h (k := j) (by omega)
      unfold ms_sp
      split <;> omega)
    omega
  intro m
  induction m with
  | zero =>
    intro k fu hk hf
    obtain ⟨fu, rfl⟩ : ∃ g, fu = g + 1 := ⟨fu - 1, by omega⟩
    rw [f_X10_signedBy_4, if_pos (by omega), show (M 341 60).toNat = k by omega]
  | succ m ih =>
    intro k fu hk hf
    obtain ⟨fu, rfl⟩ : ∃ g, fu = g + 1 := ⟨fu - 1, by omega⟩
    have up := ih (k + 1) fu (by omega) (by omega)
    have b1 := bd (k + 1) (by omega)
    have a := ms_line h (k := k) (by omega)
    rw [ms_sum] at b1 up
    push_cast at up
    have e : ms_sp (M 341) p k = if p (M 341 (89 + k)).toNat = true then ms_sk (M 341) k else 0 := rfl
    rw [f_X10_signedBy_4, if_neg (by omega), sd_wid (z := 89 + (k : Int)) (by omega) (by omega), if_pos (by omega), show (89 + (k : Int)).toNat = 89 + k by omega]
    unfold f_X10_isOf
    rw [ms_bti (by omega)]
    by_cases c : p (M 341 (89 + k)).toNat = true
    · rw [if_pos c] at e
      rw [if_pos c, if_pos rfl, Option.bind_some]
      simp only []
      rw [if_neg (by omega), if_pos (by omega), f_X10_signedBy_42, Int.toNat_natCast, sn k (by omega), ← e, sd_wid (by omega) (by omega), sd_wid (by omega) (by omega)]
      exact up
    · rw [if_neg c] at e
      rw [if_neg c, if_neg (by omega), Option.bind_some]
      simp only []
      rw [if_pos (by trivial), f_X10_signedBy_42, sd_wid (by omega) (by omega), sd_wid (by omega) (by omega)]
      rw [e] at up
      exact up
theorem rf_signedBy {M : sd_M} (h : ms_ok (M 341)) (sn : ∀ j : Nat, (j : Int) < M 341 60 → M 344 j = ms_sk (M 341) j) (p : Nat → Bool) : f_X10_signedBy (ms_bt p 9) M = some (ms_sum (ms_so (M 341) p) 9, M) := by
  have l := ms_lines h
  rw [ms_by h]
  exact rf_signedBy_l h sn p (M 341 60).toNat 0 4000 (by omega) (by omega)
theorem rf_signedAll_l {M : sd_M} (h : ms_ok (M 341)) (sn : ∀ j : Nat, (j : Int) < M 341 60 → M 344 j = ms_sk (M 341) j) : ∀ (m k fu : Nat), (k : Int) + m = M 341 60 → m < fu → f_X10_signedAll_8 fu (ms_sum (ms_sk (M 341)) k) (k : Int) M = some (ms_sum (ms_sk (M 341)) (M 341 60).toNat, M) := by
  have l := ms_lines h
  have bd : ∀ k : Nat, (k : Int) ≤ M 341 60 → 0 ≤ ms_sum (ms_sk (M 341)) k ∧ ms_sum (ms_sk (M 341)) k ≤ 8991 := fun k hk => by
    have := ms_sum_b (w := ms_sk (M 341)) (a := 0) (b := 999) k (fun j hj => by
      have := ms_sk_b h (k := j) (by omega)
      have := ms_line h (k := j) (by omega)
      omega)
    omega
  intro m
  induction m with
  | zero =>
    intro k fu hk hf
    obtain ⟨fu, rfl⟩ : ∃ g, fu = g + 1 := ⟨fu - 1, by omega⟩
    rw [f_X10_signedAll_8, if_pos (by omega), show (M 341 60).toNat = k by omega]
  | succ m ih =>
    intro k fu hk hf
    obtain ⟨fu, rfl⟩ : ∃ g, fu = g + 1 := ⟨fu - 1, by omega⟩
    have up := ih (k + 1) fu (by omega) (by omega)
    have b1 := bd (k + 1) (by omega)
    rw [ms_sum] at b1 up
    push_cast at up
    rw [f_X10_signedAll_8, if_neg (by omega), if_pos (by omega), Int.toNat_natCast, sn k (by omega), sd_wid (by omega) (by omega), sd_wid (by omega) (by omega)]
    exact up
/-- all that is signed -/
def ms_sa (S : Nat → Int) : Int := ms_sum (ms_so S (ms_at S 1)) 9
theorem ms_sa_e {S : Nat → Int} (h : ms_ok S) : ms_sum (ms_sk S) (S 60).toNat = ms_sa S := by
  unfold ms_sa
  rw [ms_by h]
  refine ms_sum_c _ (fun k hk => ?_)
  have a := ms_line h (k := k) (by omega)
  unfold ms_sp
  rw [if_pos]
  have : ((S (89 + k)).toNat : Int) < S 2 := by omega
  exact ms_at_t this a.2.1
theorem rf_signedAll {M : sd_M} (h : ms_ok (M 341)) : ms_T (f_X10_signedAll M) (fun v N => v = ms_sa (M 341) ∧ rf_f M N ∧ ∀ j : Nat, (j : Int) < M 341 60 → N 344 j = ms_sk (M 341) j) := by
  have l := ms_lines h
  unfold f_X10_signedAll
  refine ms_t_b (rf_signs h) (fun r N hN => ?_)
  have e := rf_f_41 hN.1
  have s := rf_signedAll_l (M := N) (by rw [e]; exact h) (fun j hj => by rw [e] at hj ⊢; exact hN.2 j hj) (N 341 60).toNat 0 4000 (by rw [e]; omega) (by rw [e]; omega)
  rw [ms_sa_e (S := N 341) (by rw [e]; exact h), e] at s
  exact ms_t_e s ⟨rfl, hN⟩
