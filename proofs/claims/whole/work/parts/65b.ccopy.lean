/-! the class: a book begins, a book is copied -/
theorem sd_cp_at {M : sd_M} {a b n j : Nat} (h : j < n) : sd_cp M a b n b j = M a j := by simp [sd_cp, h]
theorem sd_cp_n {M : sd_M} {a b n c : Nat} (h : c ≠ b) : sd_cp M a b n c = M c := by
  funext j
  simp [sd_cp, h]
theorem sd_cp_hi {M : sd_M} {a b n j : Nat} (h : n ≤ j) : sd_cp M a b n b j = M b j := by
  have : ¬ j < n := by omega
  simp [sd_cp, this]
def cl_cq (M N : sd_M) (b o : Nat) : Prop := (∀ j, j < 5 → N b j = M o j) ∧ ∀ r, 1 ≤ r → r < 8 → ∀ j, j < 9 → N (b + r) j = M (o + r) j
theorem cl_copy {M : sd_M} {b o : Nat} (hd : b + 8 ≤ o ∨ o + 8 ≤ b) : ∃ N, f_X0_copyFrom b o M = some (0, N) ∧ cl_cq M N b o ∧ cl_fr M N b := by
  have ho : o ≠ b := by omega
  unfold f_X0_copyFrom
  simp only [sd_s_a ho]
  refine ⟨_, rfl, ⟨fun j hj => ?_, fun r h1 h2 j hj => ?_⟩, fun a ha => ?_⟩
  · rw [sd_cp_n (show b ≠ b + 7 by omega), sd_cp_n (show b ≠ b + 6 by omega), sd_cp_n (show b ≠ b + 5 by omega), sd_cp_n (show b ≠ b + 4 by omega), sd_cp_n (show b ≠ b + 3 by omega), sd_cp_n (show b ≠ b + 2 by omega), sd_cp_n (show b ≠ b + 1 by omega)]
    match j, hj with
    | 0, _ => simp [sd_s]
    | 1, _ => simp [sd_s]
    | 2, _ => simp [sd_s]
    | 3, _ => simp [sd_s]
    | 4, _ => simp [sd_s]
  · match r, h1, h2 with
    | 1, _, _ => simp (disch := omega) only [sd_cp_n, sd_cp_at, sd_s_a]
    | 2, _, _ => simp (disch := omega) only [sd_cp_n, sd_cp_at, sd_s_a]
    | 3, _, _ => simp (disch := omega) only [sd_cp_n, sd_cp_at, sd_s_a]
    | 4, _, _ => simp (disch := omega) only [sd_cp_n, sd_cp_at, sd_s_a]
    | 5, _, _ => simp (disch := omega) only [sd_cp_n, sd_cp_at, sd_s_a]
    | 6, _, _ => simp (disch := omega) only [sd_cp_n, sd_cp_at, sd_s_a]
    | 7, _, _ => simp (disch := omega) only [sd_cp_n, sd_cp_at, sd_s_a]
  · simp (disch := omega) only [sd_cp_n, sd_s_a]
theorem cl_bk_q {M N : sd_M} {b o : Nat} {S : Nat → Int} (h : ms_ok S) (hb : cl_bk M o S) (hq : cl_cq M N b o) : cl_bk N b S := by
  have l := ms_lines h
  obtain ⟨⟨⟨b0, b1, b3, b4⟩, bf, bw, bl, bo⟩, bp, bsg⟩ := hb
  obtain ⟨q0, q1⟩ := hq
  refine ⟨⟨⟨?_, ?_, ?_, ?_⟩, fun f hf => ⟨?_, ?_, ?_⟩, fun f hf => ?_, fun k hk => ?_, fun k hk => ?_⟩, ?_, fun f hf => ?_⟩
  · rw [q0 0 (by omega)]; exact b0
  · rw [q0 1 (by omega)]; exact b1
  · rw [q0 3 (by omega)]; exact b3
  · rw [q0 4 (by omega)]; exact b4
  · rw [q1 1 (by omega) (by omega) f (by omega)]; exact (bf f hf).1
  · rw [q1 2 (by omega) (by omega) f (by omega)]; exact (bf f hf).2.1
  · rw [q1 5 (by omega) (by omega) f (by omega)]; exact (bf f hf).2.2
  · rw [q1 3 (by omega) (by omega) f (by omega)]; exact bw f hf
  · rw [q1 6 (by omega) (by omega) k (by omega)]; exact bl k hk
  · rw [q1 7 (by omega) (by omega) k (by omega)]; exact bo k hk
  · rw [q0 2 (by omega)]; exact bp
  · rw [q1 4 (by omega) (by omega) f hf]; exact bsg f hf
/-- a copy of a book that holds a state -/
theorem cl_copy_k {M : sd_M} {b o : Nat} {S : Nat → Int} (hd : b + 8 ≤ o ∨ o + 8 ≤ b) (h : ms_ok S) (hb : cl_bk M o S) : ∃ N, f_X0_copyFrom b o M = some (0, N) ∧ cl_bk N b S ∧ cl_fr M N b := by
  obtain ⟨N, n1, n2, n3⟩ := cl_copy (M := M) hd
  exact ⟨N, n1, cl_bk_q h hb n2, n3⟩
theorem cl_begin_60 {M0 : sd_M} {b : Nat} : ∀ (m k fu : Nat) (M : sd_M), k + m = 9 → m < fu → (∀ a, a ≠ b + 3 → a ≠ b + 4 → a ≠ b + 5 → M a = M0 a) → (∀ j, j < k → M (b + 3) j = 0 ∧ M (b + 4) j = 0 ∧ M (b + 5) j = 0) → ms_T (f_X0_begin_60 b fu (k : Int) M) (fun _ N => (∀ a, a ≠ b + 3 → a ≠ b + 4 → a ≠ b + 5 → N a = M0 a) ∧ ∀ j, j < 9 → N (b + 3) j = 0 ∧ N (b + 4) j = 0 ∧ N (b + 5) j = 0) := by
  intro m
  induction m with
  | zero =>
    intro k fu M hk hf h1 h2
    obtain ⟨fu, rfl⟩ : ∃ g, fu = g + 1 := ⟨fu - 1, by omega⟩
    rw [f_X0_begin_60, if_pos (by omega)]
    exact ms_t_r ⟨h1, fun j hj => h2 j (by omega)⟩
  | succ m ih =>
    intro k fu M hk hf h1 h2
    obtain ⟨fu, rfl⟩ : ∃ g, fu = g + 1 := ⟨fu - 1, by omega⟩
    rw [f_X0_begin_60, if_neg (by omega), if_pos (by omega), if_pos (by omega), if_pos (by omega), sd_wid (by omega) (by omega), Int.toNat_natCast]
    have up := ih (k + 1) fu (sd_s (sd_s (sd_s M (b + 3) k 0) (b + 4) k 0) (b + 5) k 0) (by omega) (by omega) (fun a x y z => by rw [sd_s_a z, sd_s_a y, sd_s_a x, h1 a x y z]) (fun j hj => by
      rw [sd_s_a (show b + 3 ≠ b + 5 by omega), sd_s_a (show b + 3 ≠ b + 4 by omega), sd_s_a (show b + 4 ≠ b + 5 by omega)]
      by_cases e : j = k
      · subst e
        rw [sd_s_at, sd_s_at, sd_s_at]
        exact ⟨rfl, rfl, rfl⟩
      · rw [sd_s_j e, sd_s_j e, sd_s_j e, sd_s_a (show b + 4 ≠ b + 3 by omega), sd_s_a (show b + 5 ≠ b + 4 by omega), sd_s_a (show b + 5 ≠ b + 3 by omega)]
        exact h2 j (by omega))
    push_cast at up
    exact up
def cl_bz (M N : sd_M) (b : Nat) : Prop := (N b 0 = M 59 1 ∧ N b 1 = 0 ∧ N b 2 = 0 ∧ N b 3 = 0 ∧ N b 4 = 0) ∧ ∀ f, f < 9 → N (b + 1) f = M 60 f ∧ N (b + 2) f = M 61 f ∧ N (b + 3) f = 0 ∧ N (b + 4) f = 0 ∧ N (b + 5) f = 0
theorem cl_begin {M : sd_M} {b : Nat} (h66 : 66 ≤ b) : ms_T (f_X0_begin b M) (fun _ N => cl_bz M N b ∧ cl_fr M N b) := by
  unfold f_X0_begin
  refine ms_t_w (cl_begin_60 (M0 := sd_cp (sd_cp (sd_s (sd_s (sd_s (sd_s (sd_s M b 0 (M 59 1)) b 1 0) b 2 0) b 3 0) b 4 0) 60 (b + 1) 9) 61 (b + 2) 9) 9 0 4000 _ (by omega) (by omega) (fun _ _ _ _ => rfl) (fun j hj => absurd hj (by omega))) (fun _ N hN => ?_)
  obtain ⟨n1, n2⟩ := hN
  refine ⟨⟨⟨?_, ?_, ?_, ?_, ?_⟩, fun f hf => ⟨?_, ?_, (n2 f hf).1, (n2 f hf).2.1, (n2 f hf).2.2⟩⟩, fun a ha => ?_⟩
  · rw [n1 b (by omega) (by omega) (by omega), sd_cp_n (by omega), sd_cp_n (by omega)]
    simp [sd_s]
  · rw [n1 b (by omega) (by omega) (by omega), sd_cp_n (by omega), sd_cp_n (by omega)]
    simp [sd_s]
  · rw [n1 b (by omega) (by omega) (by omega), sd_cp_n (by omega), sd_cp_n (by omega)]
    simp [sd_s]
  · rw [n1 b (by omega) (by omega) (by omega), sd_cp_n (by omega), sd_cp_n (by omega)]
    simp [sd_s]
  · rw [n1 b (by omega) (by omega) (by omega), sd_cp_n (by omega), sd_cp_n (by omega)]
    simp [sd_s]
  · rw [n1 (b + 1) (by omega) (by omega) (by omega)]
    simp (disch := omega) only [sd_cp_n, sd_cp_at, sd_s_a]
  · rw [n1 (b + 2) (by omega) (by omega) (by omega)]
    simp (disch := omega) only [sd_cp_n, sd_cp_at, sd_s_a]
  · rw [n1 a (by omega) (by omega) (by omega)]
    simp (disch := omega) only [sd_cp_n, sd_s_a]
/-- the rest of what was told -/
def cl_tw (M : sd_M) (S : Nat → Int) : Prop := (M 59 0 = S 0 ∧ M 59 1 = S 1) ∧ ∀ f : Nat, (f : Int) < S 2 → M 60 f = S (4 + f) ∧ M 61 f = S (13 + f)
/-- a book at its begin -/
theorem cl_bk_0 {N : sd_M} {b : Nat} {T : Nat → Int} (h0 : N b 0 = T 59) (h1 : N b 1 = T 58) (h2 : N b 2 = 0) (h3 : N b 3 = 0) (h4 : N b 4 = 0) (t60 : T 60 = 0) (t61 : T 61 = 0) (tw : ∀ f, f < 9 → T (71 + f) = 0) (hf : ∀ f : Nat, (f : Int) < T 2 → N (b + 1) f = T (62 + f) ∧ N (b + 2) f = T (13 + f) ∧ N (b + 5) f = T (80 + f)) (hz : ∀ f, f < 9 → N (b + 3) f = 0 ∧ N (b + 4) f = 0) : cl_bk N b T := by
  refine ⟨⟨⟨h0, h1, by rw [h3, t60], by rw [h4, t61]⟩, hf, fun f h9 => by rw [(hz f h9).1, tw f h9], fun k hk => by omega, fun k hk => by omega⟩, ?_, fun f h9 => ?_⟩
  · rw [h2]
    unfold ms_pl
    rw [t60]
    rfl
  · rw [(hz f h9).2, ms_sg_0 (by rw [tw f h9]; omega)]
theorem cl_begin_k {M : sd_M} {b : Nat} {S : Nat → Int} (h66 : 66 ≤ b) (h : ms_tl S) (hw : cl_tw M S) : ms_T (f_X0_begin b M) (fun _ N => cl_bk N b (ms_bg S) ∧ cl_fr M N b) := by
  have l : 0 ≤ S 2 ∧ S 2 ≤ 9 := h.2.1
  refine ms_t_w (cl_begin h66) (fun _ N hN => ⟨?_, hN.2⟩)
  obtain ⟨⟨⟨z0, z1, z2, z3, z4⟩, zf⟩, _⟩ := hN
  refine cl_bk_0 ?_ ?_ z2 z3 z4 (ms_bg_0 l.2 (by omega) (by omega) (by omega)) (ms_bg_0 l.2 (by omega) (by omega) (by omega)) (fun f hf => ms_bg_0 l.2 (by omega) (by omega) (by omega)) (fun f hf => ?_) (fun f hf => ⟨(zf f hf).2.2.1, (zf f hf).2.2.2.1⟩)
  · rw [z0, hw.1.2, ms_bg_59]
  · rw [z1, ms_bg_0 l.2 (by omega) (by omega) (by omega)]
  · rw [ms_bg_lo (by omega)] at hf
    have z := zf f (by omega)
    rw [z.1, z.2.1, z.2.2.2.2, (hw.2 f hf).1, (hw.2 f hf).2, ms_bg_62 hf, ms_bg_lo (by omega), ms_bg_0 l.2 (by omega) (by omega) (by omega)]
    exact ⟨rfl, rfl, rfl⟩
