/-! the class: who waits, who is taken, a day -/
theorem ms_bt_nz {p : Nat → Bool} : ∀ n, ms_bt p n = 0 → ∀ i, i < n → p i = false
  | 0, _, i, hi => absurd hi (by omega)
  | n + 1, h, i, hi => by
    have a := ms_bt_lt (p := p) n
    rw [ms_bt] at h
    have pn : p n = false := by
      cases e : p n
      · rfl
      · rw [e, if_pos rfl] at h
        have : (0 : Int) < 2 ^ n := Int.pow_pos (by decide)
        omega
    rw [pn, if_neg (by decide), Int.add_zero] at h
    by_cases c : i = n
    · rw [c]; exact pn
    · exact ms_bt_nz n h i (by omega)
theorem cl_bitsWhere_l {M : sd_M} {b : Nat} {w n : Int} (hn : 0 ≤ n ∧ n ≤ 9) : ∀ (m k fu : Nat), (k : Int) + m = n → m < fu → f_X0_bitsWhere_5 b fu w n (ms_bt (fun f => decide ((f : Int) < n) && decide (M (b + 3) f = w)) k) (k : Int) M = some (ms_bt (fun f => decide ((f : Int) < n) && decide (M (b + 3) f = w)) 9, M) := by
  intro m
  induction m with
  | zero =>
    intro k fu hk hf
    obtain ⟨fu, rfl⟩ : ∃ g, fu = g + 1 := ⟨fu - 1, by omega⟩
    rw [f_X0_bitsWhere_5, if_pos (by omega)]
    have := ms_bt_x (p := fun f => decide ((f : Int) < n) && decide (M (b + 3) f = w)) (n := k) (fun i hi _ => by
      have : ¬ ((i : Int) < n) := by omega
      simp [this]) (9 - k) (by omega)
    rw [show k + (9 - k) = 9 by omega] at this
    rw [this]
  | succ m ih =>
    intro k fu hk hf
    obtain ⟨fu, rfl⟩ : ∃ g, fu = g + 1 := ⟨fu - 1, by omega⟩
    have up := ih (k + 1) fu (by omega) (by omega)
    push_cast at up
    have kn : (k : Int) < n := by omega
    rw [f_X0_bitsWhere_5, if_neg (by omega), if_neg (by omega), if_pos (by omega), Int.toNat_natCast, f_X0_bitsWhere_36, f_X0_bitsWhere_36, sd_wid (by omega) (by omega)]
    by_cases c : M (b + 3) k = w
    · rw [if_pos c, ms_bt_or (by omega) (by simp [c, kn])]
      exact up
    · rw [if_neg c]
      rw [ms_bt, if_neg (by simp [c]), Int.add_zero] at up
      exact up
theorem cl_bitsWhere {M : sd_M} {b : Nat} {w n : Int} (hn : 0 ≤ n ∧ n ≤ 9) : f_X0_bitsWhere b w n M = some (ms_bt (fun f => decide ((f : Int) < n) && decide (M (b + 3) f = w)) 9, M) := cl_bitsWhere_l hn n.toNat 0 4000 (by omega) (by omega)
theorem cl_bits {M : sd_M} {b : Nat} {S : Nat → Int} (h : ms_ok S) (hb : cl_bs M b S) (w : Int) : f_X0_bitsWhere b w (S 2) M = some (ms_on S w, M) := by
  have l := ms_lines h
  rw [cl_bitsWhere (by omega)]
  have : ms_bt (fun f => decide ((f : Int) < S 2) && decide (M (b + 3) f = w)) 9 = ms_on S w := ms_bt_c 9 (fun i hi => by
    rw [hb.2.2.1 i hi]
    rfl)
  rw [this]
theorem cl_lineBits {M : sd_M} {b : Nat} {S : Nat → Int} (h : ms_ok S) (hb : cl_bs M b S) : f_X0_lineBits b M = some (ms_on S 1, M) := by
  have l := ms_lines h
  unfold f_X0_lineBits
  rw [cl_bitsWhere (by omega), Option.bind_some]
  have : ms_bt (fun f => decide ((f : Int) < 9) && decide (M (b + 3) f = 1)) 9 = ms_on S 1 := ms_bt_c 9 (fun i hi => by
    rw [hb.2.2.1 i hi]
    unfold ms_at
    by_cases c : (i : Int) < S 2
    · have : (i : Int) < 9 := by omega
      simp [c, this]
    · have := h.2.2.2.2.1 i (by omega) hi
      simp [this])
  rw [this]
theorem ms_ct_n {p : Nat → Bool} : ∀ (i m : Nat), ms_ct p i ≤ ms_ct p (i + m)
  | i, 0 => Int.le_refl _
  | i, m + 1 => by
    have := ms_ct_n (p := p) i m
    rw [← Nat.add_assoc, ms_ct]
    split <;> omega
theorem cl_nth_l {M : sd_M} {p : Nat → Bool} {f : Nat} (hf : f < 9) (hp : p f = true) : ∀ (m i fu : Nat), i + m = f → m < fu → f_X9_nthBit_4 fu (ms_bt p 9) (ms_ct p f) (ms_ct p i) (i : Int) M = some ((f : Int), M) := by
  intro m
  induction m with
  | zero =>
    intro i fu hi hfu
    obtain ⟨fu, rfl⟩ : ∃ g, fu = g + 1 := ⟨fu - 1, by omega⟩
    obtain rfl : i = f := by omega
    rw [f_X9_nthBit_4, if_neg (by omega), ms_btt hf, if_pos (by rw [if_pos hp]), if_pos rfl]
  | succ m ih =>
    intro i fu hi hfu
    obtain ⟨fu, rfl⟩ : ∃ g, fu = g + 1 := ⟨fu - 1, by omega⟩
    have up := ih (i + 1) fu (by omega) (by omega)
    have cb := ms_ct_b (p := p) i
    rw [ms_ct] at up
    push_cast at up
    rw [f_X9_nthBit_4, if_neg (by omega), ms_btt (by omega), f_X9_nthBit_29, f_X9_nthBit_29, sd_wid (z := (i : Int) + 1) (by omega) (by omega)]
    cases e : p i
    · rw [e] at up
      rw [if_neg (by simp)]
      rw [if_neg (by simp), Int.add_zero] at up
      exact up
    · rw [e] at up
      have mo := ms_ct_n (p := p) (i + 1) m
      rw [ms_ct, e, if_pos rfl, show i + 1 + m = f by omega] at mo
      rw [if_pos rfl, if_pos rfl, if_neg (by omega), sd_wid (by omega) (by omega)]
      rw [if_pos rfl] at up
      exact up
theorem cl_nth {M : sd_M} {p : Nat → Bool} {f : Nat} (hf : f < 9) (hp : p f = true) : f_X9_nthBit (ms_bt p 9) (ms_ct p f) M = some ((f : Int), M) := cl_nth_l hf hp f 0 4000 (by omega) (by omega)
/-- the least one of some -/
theorem ms_first {p : Nat → Bool} : ∀ n, (∃ i, i < n ∧ p i = true) → ∃ f, f < n ∧ p f = true ∧ ∀ j, j < f → p j = false
  | 0, ⟨i, hi, _⟩ => absurd hi (by omega)
  | n + 1, ⟨i, hi, hp⟩ => by
    by_cases c : ∃ j, j < n ∧ p j = true
    · obtain ⟨f, f1, f2, f3⟩ := ms_first n c
      exact ⟨f, by omega, f2, f3⟩
    · have e : i = n := by
        by_cases x : i = n
        · exact x
        · exact absurd ⟨i, by omega, hp⟩ c
      subst e
      exact ⟨i, by omega, hp, fun j hj => by
        cases y : p j
        · rfl
        · exact absurd ⟨j, hj, y⟩ c⟩
theorem ms_ct_z {p : Nat → Bool} : ∀ n, (∀ j, j < n → p j = false) → ms_ct p n = 0
  | 0, _ => rfl
  | n + 1, h => by rw [ms_ct, ms_ct_z n (fun j hj => h j (by omega)), h n (by omega)]; rfl
theorem ms_ck_1 {S : Nat → Int} {f : Nat} (hf : S (71 + f) = 0) (hb : ∀ j, j < f → S (71 + j) ≠ 0) : ∀ n, ms_ck S (fun _ _ => 1) n = if n ≤ f then (-1, 0) else ((f : Int), 1)
  | 0 => by rw [if_pos (by omega)]; rfl
  | n + 1 => by
    rw [ms_ck, ms_ck_1 hf hb n]
    by_cases c : n < f
    · rw [if_pos (show n ≤ f by omega), if_pos (show n + 1 ≤ f by omega), if_neg (fun e => hb n c e.1)]
    · by_cases d : n = f
      · subst d
        rw [if_pos (show n ≤ n by omega), if_neg (show ¬ n + 1 ≤ n by omega), if_pos ⟨hf, by decide⟩]
      · rw [if_neg (show ¬ n ≤ f by omega), if_neg (show ¬ n + 1 ≤ f by omega), if_neg (fun e => absurd e.2 (by simp))]
theorem ms_ck_0 {S : Nat → Int} {W : (Nat → Int) → Int → Int} : ∀ n, (∀ j, j < n → S (71 + j) ≠ 0) → ms_ck S W n = (-1, 0)
  | 0, _ => rfl
  | n + 1, h => by rw [ms_ck, ms_ck_0 n (fun j hj => h j (by omega)), if_neg (fun e => h n (by omega) e.1)]
/-- the rule that the class goes by, and what it gives -/
def cl_W (M : sd_M) (rl : Option Nat) (W : (Nat → Int) → Int → Int) : Prop := (rl = none ∧ W = fun _ _ => 1) ∨ ∃ (r n mm : Nat) (P V A B D : Nat → Int), rl = some (16 + 7 * r) ∧ r < 6 ∧ rf_cd M r n P V ∧ rf_cl M r n mm P V A B D ∧ cl_rl M (16 + 7 * r) mm P V A B D ∧ W = fun S f => ms_wo P V A B D (ms_ws S f) mm 0
/-- what a day of the class may change -/
def cl_fd (M N : sd_M) (b : Nat) : Prop := ∀ a, a ≠ 317 → (∀ r, r < 6 → a ≠ 22 + 7 * r) → (a < b ∨ b + 8 ≤ a) → N a = M a
theorem cl_fd_rf {M : sd_M} {b : Nat} : cl_fd M M b := fun _ _ _ _ => rfl
theorem cl_fd_tr {M N K : sd_M} {b : Nat} (h : cl_fd M N b) (g : cl_fd N K b) : cl_fd M K b := fun a x y z => (g a x y z).trans (h a x y z)
theorem cl_fd_fr {M N : sd_M} {b : Nat} (h : cl_fr M N b) : cl_fd M N b := fun a _ _ z => h a z
theorem rf_cl_k {M N : sd_M} {r n m : Nat} {P V A B D : Nat → Int} (h : rf_cl M r n m P V A B D) (e5 : N 335 = M 335) (e6 : N 336 = M 336) : rf_cl N r n m P V A B D := by
  refine ⟨⟨h.1.1, by rw [e6]; exact h.1.2⟩, fun c hc => ?_⟩
  rw [e5]
  exact h.2 c hc
theorem cl_W_c {M N : sd_M} {rl : Option Nat} {W : (Nat → Int) → Int → Int} (h : cl_W M rl W) (e : ∀ a, (16 ≤ a ∧ a < 58 ∨ a = 333 ∨ a = 335 ∨ a = 336) → (∀ r, r < 6 → a ≠ 22 + 7 * r) → N a = M a) : cl_W N rl W := by
  rcases h with h | ⟨r, n, mm, P, V, A, B, D, h1, h2, h3, h4, h5, h6⟩
  · exact Or.inl h
  · obtain ⟨q0, q1, q2, q3, q4, q5⟩ := h5
    refine Or.inr ⟨r, n, mm, P, V, A, B, D, h1, h2, rf_cd_k h3 (e 333 (by omega) (by omega)), rf_cl_k h4 (e 335 (by omega) (by omega)) (e 336 (by omega) (by omega)), ⟨?_, ?_, ?_, ?_, ?_, ?_⟩, h6⟩
    · rw [e _ (by omega) (fun r _ => by omega)]; exact q0
    · rw [e _ (by omega) (fun r _ => by omega)]; exact q1
    · rw [e _ (by omega) (fun r _ => by omega)]; exact q2
    · rw [e _ (by omega) (fun r _ => by omega)]; exact q3
    · rw [e _ (by omega) (fun r _ => by omega)]; exact q4
    · rw [e _ (by omega) (fun r _ => by omega)]; exact q5
theorem cl_W_d {M N : sd_M} {b : Nat} {rl : Option Nat} {W : (Nat → Int) → Int → Int} (h66 : 66 ≤ b ∧ b + 8 ≤ 331) (h : cl_W M rl W) (e : cl_fd M N b) : cl_W N rl W := cl_W_c h (fun a ha hr => e a (by omega) hr (by omega))
theorem ms_on_b {S : Nat → Int} {w : Int} : 0 ≤ ms_on S w ∧ ms_on S w < 512 := ms_bt_lt (p := ms_at S w) 9
theorem cl_layWords {M : sd_M} {b : Nat} {S : Nat → Int} (hb7 : 66 ≤ b ∧ (b + 8 ≤ 317 ∨ 318 ≤ b)) (h : ms_ok S) (hb : cl_bk M b S) : ∃ N, f_X1_layWords b (ms_on S 0) M = some (0, N) ∧ (∀ a, a ≠ 317 → N a = M a) ∧ ∀ j f, 4 ≤ j → j < 11 → N 317 j = ms_ws S f j := by
  have o := ms_on_b (S := S) (w := 0)
  have la := cl_lack (M := sd_s (sd_s (sd_s M 317 4 (M b 3)) 317 5 (M b 2)) 317 6 (M b 0)) (b := b) h (by rw [sd_s_a (by omega), sd_s_a (by omega), sd_s_a (by omega)]; exact hb.1.1.1) (by rw [sd_s_a (by omega), sd_s_a (by omega), sd_s_a (by omega)]; exact hb.2.1)
  unfold f_X1_layWords
  simp only [sd_s_a (show b ≠ 317 by omega), la, Option.bind_some, cl_bitCount o]
  refine ⟨_, rfl, fun a ha => ?_, fun j f h4 h11 => ?_⟩
  · simp only [sd_s_a ha]
  · obtain ⟨⟨⟨b0, b1, b3, b4⟩, bf, bw, bl, bo⟩, bp, bsg⟩ := hb
    rw [b0, b1, b3, b4, bp]
    match j, h4, h11 with
    | 4, _, _ => simp [sd_s, ms_ws]
    | 5, _, _ => simp [sd_s, ms_ws]
    | 6, _, _ => simp [sd_s, ms_ws]
    | 7, _, _ => simp [sd_s, ms_ws]
    | 8, _, _ => simp [sd_s, ms_ws]
    | 9, _, _ => simp [sd_s, ms_ws]
    | 10, _, _ => simp [sd_s, ms_ws]
theorem cl_choose_t {b R : Nat} {S : Nat → Int} (v5 v6 : Int) : ∀ (m k fu : Nat) (M : sd_M), k + m = 9 → m < fu → S 2 ≤ (k : Int) → f_X1_choose_45 b R fu (ms_on S 0) v5 v6 (k : Int) M = some (v5, M) := by
  intro m
  induction m with
  | zero =>
    intro k fu M hk hf h2
    obtain ⟨fu, rfl⟩ : ∃ g, fu = g + 1 := ⟨fu - 1, by omega⟩
    rw [f_X1_choose_45, if_pos (by omega)]
  | succ m ih =>
    intro k fu M hk hf h2
    obtain ⟨fu, rfl⟩ : ∃ g, fu = g + 1 := ⟨fu - 1, by omega⟩
    have up := ih (k + 1) fu M (by omega) (by omega) (by omega)
    push_cast at up
    have nk : ¬ (k : Int) < S 2 := by omega
    have e : sd_and (sd_shr (ms_on S 0) (k : Int)) 1 = 0 := by
      rw [ms_on, ms_btt (by omega), if_neg (by simp [ms_at, nk])]
    rw [f_X1_choose_45, if_neg (by omega), e, if_neg (by decide), f_X1_choose_140, sd_wid (by omega) (by omega)]
    exact up
theorem cl_choose_45 {M0 : sd_M} {b : Nat} {S : Nat → Int} {r n mm : Nat} {P V A B D : Nat → Int} (hb7 : 66 ≤ b ∧ (b + 8 ≤ 317 ∨ 318 ≤ b)) (h : ms_ok S) (hb : cl_bk M0 b S) (ht : cl_tn M0 S) (hr : r < 6) (hc : rf_cd M0 r n P V) (hl : rf_cl M0 r n mm P V A B D) (hq : cl_rl M0 (16 + 7 * r) mm P V A B D) (hw : ∀ j f, 4 ≤ j → j < 11 → M0 317 j = ms_ws S f j) : ∀ (m k fu : Nat) (M : sd_M), (k : Int) + m = S 2 → m + 10 < fu → (∀ a, a ≠ 317 → a ≠ 22 + 7 * r → M a = M0 a) → (∀ j, 4 ≤ j → j < 11 → M 317 j = M0 317 j) → ms_T (f_X1_choose_45 b (16 + 7 * r) fu (ms_on S 0) (ms_ck S (fun S f => ms_wo P V A B D (ms_ws S f) mm 0) k).1 (ms_ck S (fun S f => ms_wo P V A B D (ms_ws S f) mm 0) k).2 (k : Int) M) (fun v N => v = ms_ch S (fun S f => ms_wo P V A B D (ms_ws S f) mm 0) ∧ ∀ a, a ≠ 317 → a ≠ 22 + 7 * r → N a = M0 a) := by
  have l := ms_lines h
  intro m
  induction m with
  | zero =>
    intro k fu M hk hf h1 h2
    rw [cl_choose_t _ _ (9 - k) k fu M (by omega) (by omega) (by omega)]
    refine ms_t_r ⟨?_, h1⟩
    unfold ms_ch
    rw [show (S 2).toNat = k by omega]
  | succ m ih =>
    intro k fu M hk hf h1 h2
    obtain ⟨fu, rfl⟩ : ∃ g, fu = g + 1 := ⟨fu - 1, by omega⟩
    have up := ih (k + 1) fu
    push_cast at up
    rw [ms_ck] at up
    have kn : (k : Int) < S 2 := by omega
    have k9 : (0 ≤ (k : Int) ∧ (k : Int) < 9) = True := eq_true (by omega)
    rw [f_X1_choose_45, if_neg (by omega), ms_on, ms_btt (by omega), ← ms_on, f_X1_choose_140, sd_wid (by omega) (by omega)]
    simp only [f_X1_choose_140, sd_wid (z := (k : Int) + 1) (by omega) (by omega)]
    by_cases w : S (71 + k) = 0
    · have wt : ms_at S 0 k = true := by simp [ms_at, kn, w]
      rw [if_pos (by rw [if_pos wt])]
      simp only [k9, if_true, Int.toNat_natCast, sd_s_a (show b + 1 ≠ 317 by omega), sd_s_a (show b + 2 ≠ 317 by omega), sd_s_a (show (62 : Nat) ≠ 317 by omega)]
      have e1 : M (b + 1) k = S (62 + k) := by rw [h1 _ (by omega) (by omega), (hb.1.2.1 k kn).1]
      have e2 : M (b + 2) k = S (13 + k) := by rw [h1 _ (by omega) (by omega), (hb.1.2.1 k kn).2.1]
      have e3 : M 62 k = ms_nf S k (S 3).toNat := by rw [h1 _ (by omega) (by omega), ht.2.1 k kn]
      rw [e1, e2, e3]
      have K1 : ∀ a, a ≠ 317 → sd_s (sd_s (sd_s (sd_s M 317 0 (k : Int)) 317 1 (S (62 + k))) 317 2 (S (13 + k))) 317 3 (ms_nf S k (S 3).toNat) a = M a := fun a ha => by simp only [sd_s_a ha]
      have K2 : ∀ j, j < 11 → sd_s (sd_s (sd_s (sd_s M 317 0 (k : Int)) 317 1 (S (62 + k))) 317 2 (S (13 + k))) 317 3 (ms_nf S k (S 3).toNat) 317 j = ms_ws S (k : Int) j := fun j hj => by
        by_cases j4 : 4 ≤ j
        · rw [sd_s_j (by omega), sd_s_j (by omega), sd_s_j (by omega), sd_s_j (by omega), h2 j j4 hj, hw j (k : Int) j4 hj]
        · match j, j4 with
          | 0, _ => simp [sd_s, ms_ws]
          | 1, _ => simp [sd_s, ms_ws]
          | 2, _ => simp [sd_s, ms_ws]
          | 3, _ => simp [sd_s, ms_ws]
          | j + 4, j4 => omega
      generalize sd_s (sd_s (sd_s (sd_s M 317 0 (k : Int)) 317 1 (S (62 + k))) 317 2 (S (13 + k))) 317 3 (ms_nf S k (S 3).toNat) = K at K1 K2
      have g : ∀ a, a ≠ 317 → a ≠ 22 + 7 * r → K a = M0 a := fun a x y => by rw [K1 a x, h1 a x y]
      have hl2 : rf_cl K r n mm P V A B D := rf_cl_k hl (g 335 (by omega) (by omega)) (g 336 (by omega) (by omega))
      have wo := cl_worth (M := K) (R := 16 + 7 * r) (by omega) (rf_cd_k hc (g 333 (by omega) (by omega))) hl2 ⟨by rw [g _ (by omega) (by omega)]; exact hq.1, by rw [g _ (by omega) (by omega)]; exact hq.2.1, by rw [g _ (by omega) (by omega)]; exact hq.2.2.1, by rw [g _ (by omega) (by omega)]; exact hq.2.2.2.1, by rw [g _ (by omega) (by omega)]; exact hq.2.2.2.2.1, by rw [g _ (by omega) (by omega)]; exact hq.2.2.2.2.2⟩
      refine ms_t_b wo (fun v N hN => ?_)
      obtain ⟨hv, hN2⟩ := hN
      rw [ms_wo_c hl2 K2 mm 0 (by omega)] at hv
      have N1 : ∀ a, a ≠ 317 → a ≠ 22 + 7 * r → N a = M0 a := fun a x y => by rw [hN2 a (by omega), g a x y]
      have N2 : ∀ j, 4 ≤ j → j < 11 → N 317 j = M0 317 j := fun j x y => by rw [hN2 317 (by omega), K2 j y, hw j (k : Int) x y]
      have u := up N (by omega) (by omega) N1 N2
      have cm := ms_cmp (x := v) (y := (ms_ck S (fun S f => ms_wo P V A B D (ms_ws S f) mm 0) k).2)
      simp only []
      by_cases d : (ms_ck S (fun S f => ms_wo P V A B D (ms_ws S f) mm 0) k).2 < v
      · rw [if_neg (by omega)]
        rw [if_pos ⟨w, by rw [← hv]; exact d⟩, ← hv] at u
        exact u
      · rw [if_pos (by omega)]
        rw [if_neg (fun x => d (by rw [hv]; exact x.2))] at u
        exact u
    · have wt : ms_at S 0 k = false := by simp [ms_at, w]
      rw [if_neg (by rw [wt]; decide)]
      have u := up M (by omega) (by omega) h1 h2
      rw [if_neg (fun x => w x.1)] at u
      exact u
theorem cl_choose {M : sd_M} {b : Nat} {S : Nat → Int} {rl : Option Nat} {W : (Nat → Int) → Int → Int} (hb7 : 66 ≤ b ∧ (b + 8 ≤ 317 ∨ 318 ≤ b) ∧ b + 8 ≤ 331) (h : ms_ok S) (hb : cl_bk M b S) (ht : cl_tn M S) (hW : cl_W M rl W) : ms_T (f_X1_choose b rl M) (fun v N => v = ms_ch S W ∧ ∀ a, a ≠ 317 → (∀ r, r < 6 → a ≠ 22 + 7 * r) → N a = M a) := by
  have l := ms_lines h
  unfold f_X1_choose
  rw [ht.1.1, cl_bits h hb.1, Option.bind_some]
  simp only []
  by_cases z : ms_on S 0 = 0
  · rw [if_pos z]
    refine ms_t_r ⟨?_, fun _ _ _ => rfl⟩
    unfold ms_ch
    rw [ms_ck_0 _ (fun j hj e => by
      have := ms_bt_nz 9 z j (by omega)
      have jl : (j : Int) < S 2 := by omega
      simp [ms_at, e, jl] at this)]
  · rw [if_neg z]
    rcases hW with ⟨rfl, rfl⟩ | ⟨r, n, mm, P, V, A, B, D, rfl, h2, h3, h4, h5, rfl⟩
    · simp only []
      have ex : ∃ i, i < 9 ∧ ms_at S 0 i = true := by
        by_cases c : ∃ i, i < 9 ∧ ms_at S 0 i = true
        · exact c
        · exact absurd (ms_bt_z (p := ms_at S 0) (fun i hi => by
            cases e : ms_at S 0 i
            · rfl
            · exact absurd ⟨i, hi, e⟩ c)) z
      obtain ⟨f, f1, f2, f3⟩ := ms_first 9 ex
      have fw : (f : Int) < S 2 ∧ S (71 + f) = 0 := by simpa [ms_at] using f2
      have nb := cl_nth (M := M) (p := ms_at S 0) f1 f2
      rw [ms_ct_z f f3] at nb
      have nb2 : f_X9_nthBit (ms_on S 0) 0 M = _ := nb
      rw [nb2, Option.bind_some]
      refine ms_t_r ⟨?_, fun _ _ _ => rfl⟩
      unfold ms_ch
      rw [ms_ck_1 fw.2 (fun j hj e => by
        have := f3 j hj
        have jl : (j : Int) < S 2 := by omega
        simp [ms_at, e, jl] at this), if_neg (by omega)]
    · simp only []
      obtain ⟨N, n1, n2, n3⟩ := cl_layWords (M := M) (b := b) ⟨hb7.1, hb7.2.1⟩ h hb
      rw [n1, Option.bind_some]
      simp only []
      have hbN : cl_bk N b S := cl_bk_c h hb (fun _ _ => rfl) (fun a x y => n2 a (by omega))
      have htN : cl_tn N S := cl_tn_c ht h.1.2.2.1.2 (fun a x y => n2 a (by omega)) (fun _ _ => rfl)
      obtain ⟨q0, q1, q2, q3, q4, q5⟩ := h5
      have k := cl_choose_45 (M0 := N) ⟨hb7.1, hb7.2.1⟩ h hbN htN h2 (rf_cd_k h3 (n2 333 (by omega))) (rf_cl_k h4 (n2 335 (by omega)) (n2 336 (by omega))) ⟨by rw [n2 _ (by omega)]; exact q0, by rw [n2 _ (by omega)]; exact q1, by rw [n2 _ (by omega)]; exact q2, by rw [n2 _ (by omega)]; exact q3, by rw [n2 _ (by omega)]; exact q4, by rw [n2 _ (by omega)]; exact q5⟩ n3 (S 2).toNat 0 4000 N (by omega) (by omega) (fun _ _ _ => rfl) (fun _ _ _ => rfl)
      exact ms_t_w k (fun v K hK => ⟨hK.1, fun a x y => by rw [hK.2 a x (y r h2), n2 a x]⟩)
theorem cl_pass {M : sd_M} {b : Nat} {S : Nat → Int} {rl : Option Nat} {W : (Nat → Int) → Int → Int} (hb7 : 66 ≤ b ∧ (b + 8 ≤ 317 ∨ 318 ≤ b) ∧ b + 8 ≤ 331) (h : ms_ok S) (hb : cl_bk M b S) (ht : cl_tn M S) (hd : 0 ≤ S 58 ∧ S 58 < 100000) (hW : cl_W M rl W) : ms_T (f_X1_pass b rl M) (fun v N => v = ms_ch S W ∧ cl_bk N b (ms_ps W S) ∧ cl_fd M N b) := by
  have l := ms_lines h
  have fin : ∀ (v4 : Int) (K : sd_M) (T : Nat → Int), ms_ok T → cl_bk K b T → cl_tn K T → ms_pa W S = ms_st T → cl_fd M K b → v4 = ms_ch S W → ms_T (f_X1_pass_21 b rl v4 K) (fun v N => v = ms_ch S W ∧ cl_bk N b (ms_ps W S) ∧ cl_fd M N b) := by
    intro v4 K T hT hK hKt e hf ev
    unfold f_X1_pass_21
    refine ms_t_b (cl_settle hb7.1 hT hK hKt) (fun r N hN => ms_t_r ⟨ev, ?_, ?_⟩)
    · simp only []
      have e58 : ms_pa W S 58 = S 58 := (ms_pa_ok (W := W) h).2 58 (by omega)
      have b1 : N b 1 = S 58 := by rw [hN.2.1.1.1.2.1, ← e, e58]
      rw [b1, sd_wid (by omega) (by omega)]
      unfold ms_ps
      rw [e58, e]
      exact cl_bk_58 (ms_st_ok hT) hN.2.1 _
    · intro a x y z
      simp only []
      rw [sd_s_a (by omega), hN.2.2 a z, hf a x y z]
  unfold f_X1_pass
  refine ms_t_b (cl_choose hb7 h hb ht hW) (fun v K hK => ?_)
  obtain ⟨hv, hK2⟩ := hK
  simp only []
  have bK : cl_bk K b S := cl_bk_c h hb (fun _ _ => rfl) (fun a x y => hK2 a (by omega) (fun r _ => by omega))
  have tK : cl_tn K S := cl_tn_c ht h.1.2.2.1.2 (fun a x y => hK2 a (by omega) (fun r _ => by omega)) (fun _ _ => rfl)
  have fK : cl_fd M K b := fun a x y _ => hK2 a x y
  rcases ms_ch_b h (W := W) with c | c
  · rw [if_pos (by rw [hv]; exact c)]
    exact fin v K S h bK tK (by unfold ms_pa; rw [if_pos (by omega)]) fK hv
  · rw [if_neg (by omega)]
    have ti := cl_takeIn h bK (f := v) (by rw [hv]; exact c)
    refine ms_t_b ti (fun r N hN => ?_)
    simp only []
    rw [hv] at hN
    refine fin v N (ms_tk S (ms_ch S W)) (ms_tk_ok h c) hN.1 ?_ (by unfold ms_pa; rw [if_neg (by omega)]) (cl_fd_tr fK (cl_fd_fr hN.2)) hv
    exact cl_tn_c tK h.1.2.2.1.2 (fun a x y => hN.2 a (by omega)) (fun i hi => ms_tk_lo (by omega))
