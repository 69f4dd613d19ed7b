/-! RULES: the code that is written, in both -/
def rl_g (C : List (Int × Int)) (i : Nat) : Int × Int := C.getD i (0, 0)
theorem rl_g_l {C D : List (Int × Int)} {i : Nat} (h : i < C.length) : rl_g (C ++ D) i = rl_g C i := by
  unfold rl_g
  rw [List.getD_eq_getElem?_getD, List.getD_eq_getElem?_getD, List.getElem?_append_left h]
theorem rl_g_e {C : List (Int × Int)} {x : Int × Int} : rl_g (C ++ [x]) C.length = x := by
  unfold rl_g
  rw [List.getD_eq_getElem?_getD, List.getElem?_append_right (Nat.le_refl _), Nat.sub_self]
  rfl
/-- the class's rule holds the code C, k parts are counted -/
def rl_c (M : sd_M) (R : Nat) (C : List (Int × Int)) (k : Nat) : Prop := M R 1 = (C.length : Int) ∧ (∀ i, i < C.length → M (R + 4) i = (rl_g C i).1 ∧ M (R + 5) i = (rl_g C i).2) ∧ M 14 0 = (k : Int)
def rl_f (R : Nat) (M N : sd_M) : Prop := (∀ a, a ≠ 1 → a ≠ 14 → a ≠ R → a ≠ R + 4 → a ≠ R + 5 → N a = M a) ∧ (∀ j, j ≠ 2 → j ≠ 4 → N 1 j = M 1 j) ∧ N R 0 = M R 0
theorem rl_f_tr {R : Nat} {M N K : sd_M} (h : rl_f R M N) (g : rl_f R N K) : rl_f R M K := ⟨fun a x y z w v => (g.1 a x y z w v).trans (h.1 a x y z w v), fun j x y => (g.2.1 j x y).trans (h.2.1 j x y), g.2.2.trans h.2.2⟩
theorem rl_add {M : sd_M} {R k : Nat} {C : List (Int × Int)} (hR : 16 ≤ R) (h : rl_c M R C k) (hC : C.length < 400) (s v : Int) : ∃ N, f_X4_add R s v M = some (0, N) ∧ rl_c N R (C ++ [(s, v)]) k ∧ rl_f R M N ∧ (∀ a, a < 14 → N a = M a) := by
  obtain ⟨h1, h2, h3⟩ := h
  unfold f_X4_add
  simp (disch := omega) only [sd_s_a, h1, Int.toNat_natCast]
  rw [if_neg (by omega), if_pos (by omega), if_pos (by omega), sd_wid (by omega) (by omega)]
  refine ⟨_, rfl, ⟨?_, fun i hi => ?_, ?_⟩, ⟨fun a x y z w u => ?_, fun j x y => ?_, ?_⟩, fun a ha => ?_⟩
  · rw [sd_s_at, List.length_append]
    rfl
  · rw [List.length_append] at hi
    have hi2 : i < C.length + 1 := hi
    rw [sd_s_a (show R + 4 ≠ R by omega), sd_s_a (show R + 5 ≠ R by omega), sd_s_a (show R + 4 ≠ R + 5 by omega)]
    by_cases c : i = C.length
    · rw [c, sd_s_at, sd_s_at, rl_g_e]
      exact ⟨rfl, rfl⟩
    · rw [sd_s_j c, sd_s_j c, sd_s_a (show R + 5 ≠ R + 4 by omega), rl_g_l (by omega)]
      exact h2 i (by omega)
  · rw [sd_s_a (by omega), sd_s_a (by omega), sd_s_a (by omega)]
    exact h3
  · rw [sd_s_a z, sd_s_a u, sd_s_a w]
  · rw [sd_s_a (by omega), sd_s_a (by omega), sd_s_a (by omega)]
  · rw [sd_s_j (by omega), sd_s_a (by omega), sd_s_a (by omega)]
  · rw [sd_s_a (by omega), sd_s_a (by omega), sd_s_a (by omega)]
theorem rl_add_cs {M N : sd_M} {B : Nat → Int} {n p : Nat} (cs : tx_cs M B n p) (f : ∀ a, a < 14 → N a = M a) : tx_cs N B n p := tx_cs_c cs (fun j _ => by rw [f 1 (by omega)]) (f 3 (by omega)) (f 4 (by omega)) (f 5 (by omega))
theorem rl_st_f {R : Nat} {M N : sd_M} (hR : 16 ≤ R) (h : sl_st M N) : rl_f R M N := ⟨fun a x _ _ _ _ => h.1 a x, fun j _ y => h.2 j y, by rw [h.1 R (by omega)]⟩
theorem rl_st_c {R k : Nat} {C : List (Int × Int)} {M N : sd_M} (hR : 16 ≤ R) (h : sl_st M N) (c : rl_c M R C k) : rl_c N R C k := by
  unfold rl_c
  rw [h.1 R (by omega), h.1 (R + 4) (by omega), h.1 (R + 5) (by omega), h.1 14 (by omega)]
  exact c
/-- the reference's text r holds the code -/
def rl_r (K : sd_M) (r : Nat) (C : List (Int × Int)) (k : Nat) : Prop := (K 331 11 = (r : Int) ∧ K 331 12 = (k : Int) ∧ K 331 9 = 0) ∧ K 334 r = (C.length : Int) ∧ ∀ i, i < C.length → K 333 (400 * r + i) = ms_gi (rl_g C i).1 + 16 * (rl_g C i).2
def rl_q (r : Nat) (K L : sd_M) : Prop := (∀ a, a ≠ 331 → a ≠ 333 → a ≠ 334 → L a = K a) ∧ (∀ j, j ≠ 8 → j ≠ 9 → j ≠ 10 → j ≠ 12 → L 331 j = K 331 j) ∧ ∀ i, i < 400 * r → L 333 i = K 333 i
theorem rl_q_tr {r : Nat} {M N K : sd_M} (h : rl_q r M N) (g : rl_q r N K) : rl_q r M K := ⟨fun a x y z => (g.1 a x y z).trans (h.1 a x y z), fun j w x y z => (g.2.1 j w x y z).trans (h.2.1 j w x y z), fun i hi => (g.2.2 i hi).trans (h.2.2 i hi)⟩
theorem rl_q_rf {r : Nat} {M N : sd_M} (h : tx_rf M N) : rl_q r M N := ⟨fun a x _ _ => h.1 a x, fun j x y z _ => h.2 j x y z, fun i _ => by rw [h.1 333 (by omega)]⟩
theorem rl_q_s {r i : Nat} {M : sd_M} {v : Int} (h : i = 8 ∨ i = 9 ∨ i = 10 ∨ i = 12) : rl_q r M (sd_s M 331 i v) := ⟨fun a x _ _ => sd_s_a x, fun j _ _ _ _ => sd_s_j (by omega), fun i _ => by rw [sd_s_a (by omega)]⟩
theorem rl_puts {K : sd_M} {r k : Nat} {C : List (Int × Int)} (hr : r < 6) (h : rl_r K r C k) (hC : C.length < 400) {s v g : Int} (hs : 0 ≤ s ∧ s ≤ 14) (hg : g = ms_gi s) (hv : 0 ≤ v ∧ v ≤ 99999) : ∃ L, f_X10_puts g v K = some (0, L) ∧ rl_r L r (C ++ [(s, v)]) k ∧ rl_q r K L ∧ L 331 = K 331 := by
  obtain ⟨⟨h1, h2, h3⟩, h4, h5⟩ := h
  have gb := ms_gi_b hs
  unfold f_X10_puts
  simp (disch := omega) only [sd_s_a, h1, h4, Int.toNat_natCast]
  have e : sd_w (sd_w (400 * (r : Int)) + (C.length : Int)) = ((400 * r + C.length : Nat) : Int) := by
    rw [sd_wid (z := 400 * (r : Int)) (by omega) (by omega), sd_wid (by omega) (by omega)]
    omega
  have e2 : sd_w (g + sd_w (16 * v)) = ms_gi s + 16 * v := by
    rw [sd_wid (z := 16 * v) (by omega) (by omega), sd_wid (by omega) (by omega), hg]
  rw [e, e2]
  clear e e2
  rw [if_pos (by omega), if_pos (by omega), if_pos (by omega), if_pos (by omega), Int.toNat_natCast, sd_wid (by omega) (by omega)]
  refine ⟨_, rfl, ⟨⟨?_, ?_, ?_⟩, ?_, fun i hi => ?_⟩, ⟨fun a x y z => ?_, fun j w x y z => ?_, fun i hi => ?_⟩, ?_⟩
  · rw [sd_s_a (by omega), sd_s_a (by omega), h1]
  · rw [sd_s_a (by omega), sd_s_a (by omega), h2]
  · rw [sd_s_a (by omega), sd_s_a (by omega), h3]
  · rw [sd_s_at, List.length_append]
    rfl
  · rw [List.length_append] at hi
    have hi2 : i < C.length + 1 := hi
    rw [sd_s_a (by omega)]
    by_cases c : i = C.length
    · rw [c, sd_s_at, rl_g_e]
    · rw [sd_s_j (by omega), rl_g_l (by omega)]
      exact h5 i (by omega)
  · rw [sd_s_a z, sd_s_a y]
  · rw [sd_s_a (by omega), sd_s_a (by omega)]
  · rw [sd_s_a (by omega), sd_s_j (by omega)]
  · rw [sd_s_a (by omega), sd_s_a (by omega)]
theorem rl_r_c {K L : sd_M} {r k k2 : Nat} {C : List (Int × Int)} (h : rl_r K r C k) (e11 : L 331 11 = K 331 11) (e12 : L 331 12 = (k2 : Int)) (e9 : L 331 9 = 0) (e3 : L 333 = K 333) (e4 : L 334 = K 334) : rl_r L r C k2 := ⟨⟨e11.trans h.1.1, e12, e9⟩, by rw [e4]; exact h.2.1, fun i hi => by rw [e3]; exact h.2.2 i hi⟩
/-! a value -/
abbrev rl_R : Type := Int ⊕ (Nat × Nat × List (Int × Int))
def rl_p (o : rl_R) (no : Int → Prop) (ok : Nat → Nat → List (Int × Int) → Prop) : Prop := match o with
  | .inl f => no f
  | .inr x => ok x.1 x.2.1 x.2.2
def rl_v (B : Nat → Int) (n p k : Nat) : rl_R :=
  if tx_kd B n p = 513 then (if tx_vl B n p = -1 then .inl (sl_f p 1) else if 60 ≤ k then .inl (sl_f p 3) else .inr (tx_nx B n p, k + 1, [(0, tx_vl B n p)]))
  else if 600 ≤ tx_kd B n p ∧ tx_kd B n p < 611 then (if 60 ≤ k then .inl (sl_f p 3) else .inr (tx_nx B n p, k + 1, [(1, tx_kd B n p - 600)]))
  else .inl (sl_f p 0)
