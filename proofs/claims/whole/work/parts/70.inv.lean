/-! THE INVARIANT: what class and reference hold, side by side -/
def cl_tg (M : sd_M) (t : Nat) (S : Nat → Int) : Prop := (M t 0 = S 0 ∧ M t 1 = S 1 ∧ M t 2 = S 2 ∧ M t 6 = S 3) ∧ (∀ f : Nat, (f : Int) < S 2 → M (t + 1) f = S (4 + f) ∧ M (t + 2) f = S (13 + f) ∧ M (t + 3) f = ms_nf S f (S 3).toNat) ∧ ∀ k : Nat, (k : Int) < S 3 → M (t + 4) k = S (22 + 3 * k) ∧ M (t + 5) k = S (23 + 3 * k) ∧ M (t + 6) k = S (24 + 3 * k)
def cl_nt (M : sd_M) (t : Nat) (S : Nat → Int) : Prop := M t 0 = S 127 ∧ ∀ k : Nat, (k : Int) < S 127 → M (t + 1) k = S (107 + 2 * k) ∧ M (t + 2) k = S (108 + 2 * k)
def ms_no (S : Nat → Int) : Prop := (0 ≤ S 127 ∧ S 127 ≤ 10) ∧ ∀ k : Nat, (k : Int) < S 127 → 0 ≤ S (107 + 2 * k) ∧ S (107 + 2 * k) ≤ 30
/-- what holds of a slip and its state -/
def ms_sl (S : Nat → Int) : Prop := ms_ok S ∧ (0 ≤ S 58 ∧ S 58 ≤ 999) ∧ ms_no S
/-- a desk of the class holds it -/
def cl_dk (M : sd_M) (d : Nat) (S : Nat → Int) (z x : Int) : Prop := cl_tg M (d + 1) S ∧ cl_bk M (d + 8) S ∧ cl_nt M (d + 16) S ∧ M d 3 = z ∧ M d 4 = x
/-- a state as it was -/
def ms_wa (S K : Nat → Int) (o : Nat) : Nat → Int := fun i => if 58 ≤ i ∧ i < 107 then K (o + (i - 58)) else S i
def iv_t (M : sd_M) : Prop := M 1 1 = M 331 1 ∧ (0 ≤ M 331 1 ∧ M 331 1 ≤ 400) ∧ ∀ j : Nat, (j : Int) < M 331 1 → M 2 j = M 332 j ∧ (-128 ≤ M 332 j ∧ M 332 j < 128)
def iv_r (M : sd_M) : Prop := (M 0 4 = M 331 2 ∧ 0 ≤ M 331 2 ∧ M 331 2 ≤ 6) ∧ ∀ r : Nat, (r : Int) < M 331 2 → ∃ (n mm : Nat) (P V A B D : Nat → Int), rf_cd M r n P V ∧ rf_cl M r n mm P V A B D ∧ cl_rl M (16 + 7 * r) mm P V A B D
def iv_u (M : sd_M) : Prop := (M 0 9 = M 331 27 ∧ (0 ≤ M 331 27 ∧ M 331 27 ≤ 20) ∧ 0 ≤ M 0 10 ∧ M 0 10 < 20) ∧ ∀ i : Nat, (i : Int) < M 331 27 → (ms_ok (ms_wa (M 341) (M 345) (49 * i)) ∧ 0 ≤ ms_wa (M 341) (M 345) (49 * i) 58 ∧ ms_wa (M 341) (M 345) (49 * i) 58 ≤ 999) ∧ cl_bk M (156 + 8 * (((M 0 10).toNat + 20 - (M 331 27).toNat + i) % 20)) (ms_wa (M 341) (M 345) (49 * i))
def iv_i (M : sd_M) : Prop := ∀ k : Nat, k < 4 → (M 154 k = M 356 k ∧ (M 356 k = 0 ∨ M 356 k = 1)) ∧ (M 356 k = 1 → ms_sl (fun i => M 353 (128 * k + i)) ∧ cl_dk M (78 + 19 * k) (fun i => M 353 (128 * k + i)) (M 354 k) (M 355 k) ∧ (-1 ≤ M 354 k ∧ M 354 k < M 331 2) ∧ 0 ≤ M 355 k ∧ M 355 k < 2147483648)
def iv_k (M : sd_M) : Prop := ms_sl (M 341) ∧ cl_dk M 58 (M 341) (M 331 21) (M 331 22) ∧ (-1 ≤ M 331 21 ∧ M 331 21 < M 331 2) ∧ 0 ≤ M 331 22 ∧ M 331 22 < 2147483648
def sd_Iv (M : sd_M) : Prop := iv_t M ∧ iv_r M ∧ iv_u M ∧ iv_i M ∧ iv_k M
theorem cl_tg_c {M N : sd_M} {t : Nat} {S : Nat → Int} (h : cl_tg M t S) (e : ∀ a, t ≤ a → a < t + 7 → N a = M a) : cl_tg N t S := by
  unfold cl_tg
  rw [e t (by omega) (by omega), e (t + 1) (by omega) (by omega), e (t + 2) (by omega) (by omega), e (t + 3) (by omega) (by omega), e (t + 4) (by omega) (by omega), e (t + 5) (by omega) (by omega), e (t + 6) (by omega) (by omega)]
  exact h
theorem cl_nt_c {M N : sd_M} {t : Nat} {S : Nat → Int} (h : cl_nt M t S) (e : ∀ a, t ≤ a → a < t + 3 → N a = M a) : cl_nt N t S := by
  unfold cl_nt
  rw [e t (by omega) (by omega), e (t + 1) (by omega) (by omega), e (t + 2) (by omega) (by omega)]
  exact h
theorem cl_dk_c {M N : sd_M} {d : Nat} {S : Nat → Int} {z x : Int} (hS : ms_ok S) (h : cl_dk M d S z x) (e : ∀ a, d ≤ a → a < d + 19 → N a = M a) : cl_dk N d S z x := by
  obtain ⟨h1, h2, h3, h4, h5⟩ := h
  refine ⟨cl_tg_c h1 (fun a x y => e a (by omega) (by omega)), cl_bk_c hS h2 (fun _ _ => rfl) (fun a x y => e a (by omega) (by omega)), cl_nt_c h3 (fun a x y => e a (by omega) (by omega)), ?_, ?_⟩
  · rw [e d (by omega) (by omega)]
    exact h4
  · rw [e d (by omega) (by omega)]
    exact h5
/-- the cells that count -/
def iv_c (a : Nat) : Prop := a < 3 ∨ (16 ≤ a ∧ a < 58 ∧ ∀ r, r < 6 → a ≠ 22 + 7 * r) ∨ (58 ≤ a ∧ a < 316) ∨ a = 332 ∨ a = 333 ∨ a = 335 ∨ a = 336 ∨ a = 341 ∨ a = 345 ∨ (353 ≤ a ∧ a < 357)
theorem iv_cr {r k : Nat} (hr : r < 6) (hk : k < 6) : iv_c (16 + 7 * r + k) := Or.inr (Or.inl ⟨by omega, by omega, fun s hs => by omega⟩)
theorem iv_cm {a : Nat} (h : 58 ≤ a ∧ a < 316) : iv_c a := Or.inr (Or.inr (Or.inl h))
theorem iv_ch {a : Nat} (h : a = 332 ∨ a = 333 ∨ a = 335 ∨ a = 336 ∨ a = 341 ∨ a = 345 ∨ (353 ≤ a ∧ a < 357)) : iv_c a := Or.inr (Or.inr (Or.inr h))
theorem iv_cong {M N : sd_M} (h : sd_Iv M) (e : ∀ a, iv_c a → N a = M a) (f : ∀ j, (j = 1 ∨ j = 2 ∨ j = 21 ∨ j = 22 ∨ j = 27) → N 331 j = M 331 j) : sd_Iv N := by
  obtain ⟨ht, hr, hu, hi, hk⟩ := h
  have e0 := e 0 (Or.inl (by omega))
  have e1 := e 1 (Or.inl (by omega))
  have e2 := e 2 (Or.inl (by omega))
  have e332 := e 332 (iv_ch (by omega))
  have e333 := e 333 (iv_ch (by omega))
  have e335 := e 335 (iv_ch (by omega))
  have e336 := e 336 (iv_ch (by omega))
  have e341 := e 341 (iv_ch (by omega))
  have e345 := e 345 (iv_ch (by omega))
  have e353 := e 353 (iv_ch (by omega))
  have e354 := e 354 (iv_ch (by omega))
  have e355 := e 355 (iv_ch (by omega))
  have e356 := e 356 (iv_ch (by omega))
  have e154 := e 154 (iv_cm (by omega))
  have f1 := f 1 (by omega)
  have f2 := f 2 (by omega)
  have f21 := f 21 (by omega)
  have f22 := f 22 (by omega)
  have f27 := f 27 (by omega)
  refine ⟨?_, ?_, ?_, ?_, ?_⟩
  · unfold iv_t
    rw [e1, e2, e332, f1]
    exact ht
  · unfold iv_r
    rw [e0, f2]
    refine ⟨hr.1, fun r hr2 => ?_⟩
    obtain ⟨n, mm, P, V, A, B, D, h1, h2, h3⟩ := hr.2 r hr2
    have r6 : r < 6 := by
      have := hr.1
      omega
    refine ⟨n, mm, P, V, A, B, D, rf_cd_k h1 e333, rf_cl_k h2 e335 e336, ?_⟩
    obtain ⟨q0, q1, q2, q3, q4, q5⟩ := h3
    have g0 : N (16 + 7 * r) = M (16 + 7 * r) := e _ (iv_cr (k := 0) r6 (by omega))
    exact ⟨by rw [g0]; exact q0, by rw [e _ (iv_cr r6 (by omega))]; exact q1, by rw [e _ (iv_cr r6 (by omega))]; exact q2, by rw [e _ (iv_cr r6 (by omega))]; exact q3, by rw [e _ (iv_cr r6 (by omega))]; exact q4, by rw [e _ (iv_cr r6 (by omega))]; exact q5⟩
  · unfold iv_u
    rw [e0, f27, e341, e345]
    exact ⟨hu.1, fun i h => ⟨(hu.2 i h).1, cl_bk_c (hu.2 i h).1.1 (hu.2 i h).2 (fun _ _ => rfl) (fun a x y => e a (iv_cm (by omega)))⟩⟩
  · unfold iv_i
    rw [e154, e356, e353, e354, e355, f2]
    intro k h
    refine ⟨(hi k h).1, fun m => ?_⟩
    obtain ⟨a, b, c⟩ := (hi k h).2 m
    exact ⟨a, cl_dk_c a.1 b (fun a x y => e a (iv_cm (by omega))), c⟩
  · unfold iv_k
    rw [e341, f21, f22, f2]
    exact ⟨hk.1, cl_dk_c hk.1.1 hk.2.1 (fun a x y => e a (iv_cm (by omega))), hk.2.2⟩
theorem iv_ok {M : sd_M} (h : sd_Iv M) : ms_ok (M 341) := h.2.2.2.2.1.1
theorem iv_sl {M : sd_M} (h : sd_Iv M) : ms_sl (M 341) := h.2.2.2.2.1
theorem iv_bk {M : sd_M} (h : sd_Iv M) : cl_bk M 66 (M 341) := h.2.2.2.2.2.1.2.1
theorem iv_tg {M : sd_M} (h : sd_Iv M) : cl_tg M 59 (M 341) := h.2.2.2.2.2.1.1
theorem iv_nt {M : sd_M} (h : sd_Iv M) : cl_nt M 74 (M 341) := h.2.2.2.2.2.1.2.2.1
theorem iv_zx {M : sd_M} (h : sd_Iv M) : M 58 3 = M 331 21 ∧ M 58 4 = M 331 22 := h.2.2.2.2.2.1.2.2.2
theorem cl_tg_n {M : sd_M} {S : Nat → Int} (h : cl_tg M 59 S) : cl_tn M S := by
  obtain ⟨⟨a, b, c, d⟩, f, k⟩ := h
  exact ⟨⟨c, d⟩, fun g hg => (f g hg).2.2, k⟩
theorem cl_tg_w {M : sd_M} {S : Nat → Int} (h : cl_tg M 59 S) : cl_tw M S := by
  obtain ⟨⟨a, b, c, d⟩, f, k⟩ := h
  exact ⟨⟨a, b⟩, fun g hg => ⟨(f g hg).1, (f g hg).2.1⟩⟩
theorem iv_tn {M : sd_M} (h : sd_Iv M) : cl_tn M (M 341) := cl_tg_n (iv_tg h)
theorem iv_tw {M : sd_M} (h : sd_Iv M) : cl_tw M (M 341) := cl_tg_w (iv_tg h)
/-- a rule by its number, in both -/
theorem iv_W {M : sd_M} (h : sd_Iv M) {z : Int} (hz : -1 ≤ z ∧ z < M 331 2) : ∃ rl W, f_X9_ruleAt z M = some (rl, M) ∧ cl_W M rl W ∧ rf_W M z W := by
  have r1 := h.2.1.1
  unfold f_X9_ruleAt
  by_cases c : z < 0
  · exact ⟨none, _, if_pos c, Or.inl ⟨rfl, rfl⟩, Or.inl ⟨c, rfl⟩⟩
  · obtain ⟨k, rfl⟩ : ∃ k : Nat, z = k := ⟨z.toNat, by omega⟩
    obtain ⟨n, mm, P, V, A, B, D, h1, h2, h3⟩ := h.2.1.2 k hz.2
    refine ⟨some (16 + 7 * k), _, ?_, Or.inr ⟨k, n, mm, P, V, A, B, D, rfl, by omega, h1, h2, h3, rfl⟩, Or.inr ⟨k, n, mm, P, V, A, B, D, rfl, by omega, h1, h2, rfl⟩⟩
    rw [if_neg c, if_neg (by omega), if_neg (by omega), if_pos (by omega), Int.toNat_natCast]
theorem iv_F {M : sd_M} (h : sd_Iv M) : ∃ rl W, f_X9_ruleInForce M = some (rl, M) ∧ cl_W M rl W ∧ rf_W M (M 331 21) W := by
  obtain ⟨rl, W, h1, h2, h3⟩ := iv_W h h.2.2.2.2.2.2.1
  refine ⟨rl, W, ?_, h2, h3⟩
  unfold f_X9_ruleInForce
  rw [(iv_zx h).1, h1]
  rfl
/-! what is asked: nothing changes that counts -/
def cl_qf (M N : sd_M) : Prop := ∀ a, ¬ (317 ≤ a ∧ a < 331) → (∀ r, r < 6 → a ≠ 22 + 7 * r) → N a = M a
theorem cl_qf_rf {M : sd_M} : cl_qf M M := fun _ _ _ => rfl
theorem cl_qf_tr {M N K : sd_M} (h : cl_qf M N) (g : cl_qf N K) : cl_qf M K := fun a x y => (g a x y).trans (h a x y)
theorem cl_qf_fd {M N : sd_M} (h : cl_fd M N 318) : cl_qf M N := fun a x y => h a (by omega) y (by omega)
theorem cl_qf_fr {M N : sd_M} (h : cl_fr M N 318) : cl_qf M N := fun a x y => h a (by omega)
theorem cl_qf_s {M : sd_M} {a i : Nat} {v : Int} (h : 317 ≤ a ∧ a < 331) : cl_qf M (sd_s M a i v) := fun b x _ => sd_s_a (by omega)
theorem cl_qf_hi {M N : sd_M} (h : cl_qf M N) {a : Nat} (ha : 331 ≤ a) : N a = M a := h a (by omega) (fun r _ => by omega)
theorem cl_qf_mi {M N : sd_M} (h : cl_qf M N) {a : Nat} (ha : 58 ≤ a ∧ a < 316) : N a = M a := h a (by omega) (fun r _ => by omega)
theorem cl_qf_iv {M N : sd_M} (h : sd_Iv M) (q : cl_qf M N) : sd_Iv N := by
  refine iv_cong h (fun a ha => ?_) (fun j _ => by rw [q 331 (by omega) (fun r _ => by omega)])
  rcases ha with c | c | c | c
  · exact q a (by omega) (fun r _ => by omega)
  · exact q a (by omega) c.2.2
  · exact q a (by omega) (fun r _ => by omega)
  · exact q a (by omega) (fun r _ => by omega)
def rf_q (M N : sd_M) : Prop := (∀ a, (a < 331 ∨ iv_c a) → N a = M a) ∧ ∀ j, (j = 1 ∨ j = 2 ∨ j = 21 ∨ j = 22 ∨ j = 27) → N 331 j = M 331 j
theorem rf_q_rf {M : sd_M} : rf_q M M := ⟨fun _ _ => rfl, fun _ _ => rfl⟩
theorem rf_q_tr {M N K : sd_M} (h : rf_q M N) (g : rf_q N K) : rf_q M K := ⟨fun a x => (g.1 a x).trans (h.1 a x), fun j x => (g.2 j x).trans (h.2 j x)⟩
theorem rf_q_iv {M N : sd_M} (h : sd_Iv M) (q : rf_q M N) : sd_Iv N := iv_cong h (fun a ha => q.1 a (Or.inr ha)) q.2
theorem iv_cx {a : Nat} (h : a < 331 ∨ iv_c a) : a < 331 ∨ a = 332 ∨ a = 333 ∨ a = 335 ∨ a = 336 ∨ a = 341 ∨ a = 345 ∨ (353 ≤ a ∧ a < 357) := by
  rcases h with h | h | h | h | h
  · omega
  · omega
  · have := h.2.1
    omega
  · omega
  · omega
theorem rf_q_f {M N : sd_M} (h : rf_f M N) : rf_q M N := ⟨fun a ha => by
  have := iv_cx ha
  exact h a (by omega) (by omega) (by omega), fun j _ => by rw [h 331 (by omega) (by omega) (by omega)]⟩
/-- a state laid back -/
theorem rf_q_d {M N : sd_M} (h : rf_d M N) (e : N 341 = M 341) : rf_q M N := ⟨fun a ha => by
  have := iv_cx ha
  by_cases c : a = 341
  · rw [c, e]
  · exact h.1 a (by omega) (by omega) (by omega) c (by omega) (by omega) (by omega), fun j hj => h.2 j (by omega)⟩
theorem iv_q0 {f g : sd_M → Option (Int × sd_M)} (h : ∀ M, sd_Iv M → ∃ r, ms_T (f M) (fun v N => v = r ∧ cl_qf M N) ∧ ∀ N, sd_Iv N → cl_qf M N → ms_T (g N) (fun v K => v = r ∧ rf_q N K)) : sd_S0 sd_Iv f g := by
  intro M hM
  obtain ⟨r, ⟨v, M1, e1, rfl, q1⟩, h2⟩ := h M hM
  have i1 := cl_qf_iv hM q1
  obtain ⟨w, M2, e2, rfl, q2⟩ := h2 M1 i1 q1
  exact ⟨_, M1, M2, e1, e2, rf_q_iv i1 q2⟩
theorem iv_q1 {f g : Int → sd_M → Option (Int × sd_M)} (h : ∀ M, sd_Iv M → ∀ a, sd_rg a → ∃ r, ms_T (f a M) (fun v N => v = r ∧ cl_qf M N) ∧ ∀ N, sd_Iv N → cl_qf M N → ms_T (g a N) (fun v K => v = r ∧ rf_q N K)) : sd_S1 sd_Iv f g := by
  intro M hM a ha
  obtain ⟨r, ⟨v, M1, e1, rfl, q1⟩, h2⟩ := h M hM a ha
  have i1 := cl_qf_iv hM q1
  obtain ⟨w, M2, e2, rfl, q2⟩ := h2 M1 i1 q1
  exact ⟨_, M1, M2, e1, e2, rf_q_iv i1 q2⟩
theorem iv_q2 {f g : Int → Int → sd_M → Option (Int × sd_M)} (h : ∀ M, sd_Iv M → ∀ a b, sd_rg a → sd_rg b → ∃ r, ms_T (f a b M) (fun v N => v = r ∧ cl_qf M N) ∧ ∀ N, sd_Iv N → cl_qf M N → ms_T (g a b N) (fun v K => v = r ∧ rf_q N K)) : sd_S2 sd_Iv f g := by
  intro M hM a b ha hb
  obtain ⟨r, ⟨v, M1, e1, rfl, q1⟩, h2⟩ := h M hM a b ha hb
  have i1 := cl_qf_iv hM q1
  obtain ⟨w, M2, e2, rfl, q2⟩ := h2 M1 i1 q1
  exact ⟨_, M1, M2, e1, e2, rf_q_iv i1 q2⟩
theorem iv_q3 {f g : Int → Int → Int → sd_M → Option (Int × sd_M)} (h : ∀ M, sd_Iv M → ∀ a b c, sd_rg a → sd_rg b → sd_rg c → ∃ r, ms_T (f a b c M) (fun v N => v = r ∧ cl_qf M N) ∧ ∀ N, sd_Iv N → cl_qf M N → ms_T (g a b c N) (fun v K => v = r ∧ rf_q N K)) : sd_S3 sd_Iv f g := by
  intro M hM a b c ha hb hc
  obtain ⟨r, ⟨v, M1, e1, rfl, q1⟩, h2⟩ := h M hM a b c ha hb hc
  have i1 := cl_qf_iv hM q1
  obtain ⟨w, M2, e2, rfl, q2⟩ := h2 M1 i1 q1
  exact ⟨_, M1, M2, e1, e2, rf_q_iv i1 q2⟩
theorem iv_q4 {f g : Int → Int → Int → Int → sd_M → Option (Int × sd_M)} (h : ∀ M, sd_Iv M → ∀ a b c d, sd_rg a → sd_rg b → sd_rg c → sd_rg d → ∃ r, ms_T (f a b c d M) (fun v N => v = r ∧ cl_qf M N) ∧ ∀ N, sd_Iv N → cl_qf M N → ms_T (g a b c d N) (fun v K => v = r ∧ rf_q N K)) : sd_S4 sd_Iv f g := by
  intro M hM a b c d ha hb hc hd
  obtain ⟨r, ⟨v, M1, e1, rfl, q1⟩, h2⟩ := h M hM a b c d ha hb hc hd
  have i1 := cl_qf_iv hM q1
  obtain ⟨w, M2, e2, rfl, q2⟩ := h2 M1 i1 q1
  exact ⟨_, M1, M2, e1, e2, rf_q_iv i1 q2⟩
