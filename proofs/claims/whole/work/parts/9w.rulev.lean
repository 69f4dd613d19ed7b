/-! clauses: what is noted of them -/
def rq_g (Q : List (Nat × Nat × Nat)) (i : Nat) : Nat × Nat × Nat := Q.getD i (0, 0, 0)
theorem rq_g_l {C D : List (Nat × Nat × Nat)} {i : Nat} (h : i < C.length) : rq_g (C ++ D) i = rq_g C i := by
  unfold rq_g
  rw [List.getD_eq_getElem?_getD, List.getD_eq_getElem?_getD, List.getElem?_append_left h]
theorem rq_g_e {C : List (Nat × Nat × Nat)} {x : Nat × Nat × Nat} : rq_g (C ++ [x]) C.length = x := by
  unfold rq_g
  rw [List.getD_eq_getElem?_getD, List.getElem?_append_right (Nat.le_refl _), Nat.sub_self]
  rfl
def rl_cq (M : sd_M) (R : Nat) (Q : List (Nat × Nat × Nat)) : Prop := M R 0 = (Q.length : Int) ∧ ∀ i, i < Q.length → M (R + 1) i = ((rq_g Q i).1 : Int) ∧ M (R + 2) i = ((rq_g Q i).2.1 : Int) ∧ M (R + 3) i = ((rq_g Q i).2.2 : Int)
def rl_fw (R : Nat) (M N : sd_M) : Prop := (∀ a, a ≠ 1 → a ≠ 14 → ¬ (R ≤ a ∧ a < R + 6) → N a = M a) ∧ ∀ j, j ≠ 2 → j ≠ 4 → N 1 j = M 1 j
theorem rl_fw_tr {R : Nat} {M N K : sd_M} (h : rl_fw R M N) (g : rl_fw R N K) : rl_fw R M K := ⟨fun a x y z => (g.1 a x y z).trans (h.1 a x y z), fun j x y => (g.2 j x y).trans (h.2 j x y)⟩
theorem rl_fw_f {R : Nat} {M N : sd_M} (h : rl_f R M N) : rl_fw R M N := ⟨fun a x y z => h.1 a x y (by omega) (by omega) (by omega), h.2.1⟩
theorem rl_cq_f {R : Nat} {M N : sd_M} {Q : List (Nat × Nat × Nat)} (hR : 16 ≤ R) (c : rl_cq M R Q) (h : rl_f R M N) : rl_cq N R Q := by
  unfold rl_cq
  rw [h.2.2, h.1 (R + 1) (by omega) (by omega) (by omega) (by omega) (by omega), h.1 (R + 2) (by omega) (by omega) (by omega) (by omega) (by omega), h.1 (R + 3) (by omega) (by omega) (by omega) (by omega) (by omega)]
  exact c
/-- a clause is noted -/
theorem rl_addc {B : Nat → Int} {n p R k a b : Nat} {C : List (Int × Int)} {Q : List (Nat × Nat × Nat)} {M : sd_M} (hR : 16 ≤ R) (cs : tx_cs M B n p) (rc : rl_c M R C k) (cq : rl_cq M R Q) (hQ : Q.length < 12) : ∃ N, f_X4_addClause R (a : Int) (b : Int) M = some (0, N) ∧ tx_cs N B n p ∧ rl_c N R C k ∧ rl_cq N R (Q ++ [(a, b, C.length)]) ∧ rl_fw R M N := by
  obtain ⟨h1, h2, h3⟩ := rc
  obtain ⟨q1, q2⟩ := cq
  refine ⟨sd_s (sd_s (sd_s (sd_s M (R + 1) Q.length (a : Int)) (R + 2) Q.length (b : Int)) (R + 3) Q.length (C.length : Int)) R 0 ((Q.length + 1 : Nat) : Int), ?_, ?_, ⟨?_, fun i hi => ?_, ?_⟩, ⟨?_, fun i hi => ?_⟩, ⟨fun x y z w => ?_, fun j y z => ?_⟩⟩
  · unfold f_X4_addClause
    simp (disch := omega) only [sd_s_a, h1, q1, Int.toNat_natCast]
    rw [if_neg (by omega), if_pos (by omega), if_pos (by omega), if_pos (by omega), sd_wid (by omega) (by omega)]
    rfl
  · exact rl_add_cs cs (fun x hx => by rw [sd_s_a (by omega), sd_s_a (by omega), sd_s_a (by omega), sd_s_a (by omega)])
  · rw [sd_s_j (by omega), sd_s_a (by omega), sd_s_a (by omega), sd_s_a (by omega)]
    exact h1
  · rw [sd_s_a (by omega), sd_s_a (by omega), sd_s_a (by omega), sd_s_a (by omega), sd_s_a (show R + 5 ≠ R by omega), sd_s_a (by omega), sd_s_a (by omega), sd_s_a (by omega)]
    exact h2 i hi
  · rw [sd_s_a (by omega), sd_s_a (by omega), sd_s_a (by omega), sd_s_a (by omega)]
    exact h3
  · rw [sd_s_at, List.length_append]
    rfl
  · rw [List.length_append] at hi
    have hi2 : i < Q.length + 1 := hi
    rw [sd_s_a (show R + 1 ≠ R by omega), sd_s_a (show R + 1 ≠ R + 3 by omega), sd_s_a (show R + 1 ≠ R + 2 by omega), sd_s_a (show R + 2 ≠ R by omega), sd_s_a (show R + 2 ≠ R + 3 by omega), sd_s_a (show R + 3 ≠ R by omega)]
    by_cases c : i = Q.length
    · rw [c, sd_s_at, sd_s_at, sd_s_at, rq_g_e]
      exact ⟨rfl, rfl, rfl⟩
    · rw [sd_s_j c, sd_s_j c, sd_s_j c, sd_s_a (show R + 2 ≠ R + 1 by omega), sd_s_a (show R + 3 ≠ R + 2 by omega), sd_s_a (show R + 3 ≠ R + 1 by omega), rq_g_l (by omega)]
      exact q2 i (by omega)
  · rw [sd_s_a (by omega), sd_s_a (by omega), sd_s_a (by omega), sd_s_a (by omega)]
  · rw [sd_s_a (by omega), sd_s_a (by omega), sd_s_a (by omega), sd_s_a (by omega)]
/-! the reference's notes -/
def rl_x4 (f : Nat → Int) (o : Nat) (x : Nat × Nat × Nat) : Prop := f o = (x.1 : Int) ∧ f (o + 1) = (x.2.1 : Int) ∧ f (o + 2) = (if (x.2.1 : Int) = (x.2.2 : Int) then -1 else (x.2.1 : Int)) ∧ f (o + 3) = (x.2.2 : Int)
def rl_rq (K : sd_M) (r : Nat) (Q : List (Nat × Nat × Nat)) : Prop := K 331 14 = (Q.length : Int) ∧ K 336 r = (Q.length : Int) ∧ ∀ i, i < Q.length → rl_x4 (K 335) (48 * r + 4 * i) (rq_g Q i)
def rl_q3 (r : Nat) (K L : sd_M) : Prop := (∀ a, a ≠ 331 → a ≠ 333 → a ≠ 334 → a ≠ 335 → a ≠ 336 → a ≠ 338 → L a = K a) ∧ (∀ j, j ≠ 1 → j ≠ 8 → j ≠ 9 → j ≠ 10 → j ≠ 12 → j ≠ 13 → j ≠ 14 → j ≠ 16 → L 331 j = K 331 j) ∧ (∀ i, i < 400 * r → L 333 i = K 333 i) ∧ (∀ i, i < 48 * r → L 335 i = K 335 i) ∧ ∀ i, i ≠ r → L 336 i = K 336 i
theorem rl_q3_tr {r : Nat} {M N K : sd_M} (h : rl_q3 r M N) (g : rl_q3 r N K) : rl_q3 r M K := ⟨fun a x y z u v w => (g.1 a x y z u v w).trans (h.1 a x y z u v w), fun j a b c d e f x y => (g.2.1 j a b c d e f x y).trans (h.2.1 j a b c d e f x y), fun i hi => (g.2.2.1 i hi).trans (h.2.2.1 i hi), fun i hi => (g.2.2.2.1 i hi).trans (h.2.2.2.1 i hi), fun i hi => (g.2.2.2.2 i hi).trans (h.2.2.2.2 i hi)⟩
theorem rl_q3_q {r : Nat} {K L : sd_M} (h : rl_q2 r K L) : rl_q3 r K L := ⟨fun a x y z _ _ w => h.1 a x y z w, fun j _ b c d e f _ y => h.2.1 j b c d e f y, h.2.2, fun i _ => by rw [h.1 335 (by omega) (by omega) (by omega) (by omega)], fun i _ => by rw [h.1 336 (by omega) (by omega) (by omega) (by omega)]⟩
theorem rl_q3_s {r i : Nat} {M : sd_M} {v : Int} (h : i = 1 ∨ i = 8 ∨ i = 9 ∨ i = 10 ∨ i = 12 ∨ i = 13 ∨ i = 14 ∨ i = 16) : rl_q3 r M (sd_s M 331 i v) := ⟨fun a x _ _ _ _ _ => sd_s_a x, fun j _ _ _ _ _ _ _ _ => sd_s_j (by omega), fun i _ => by rw [sd_s_a (by omega)], fun i _ => by rw [sd_s_a (by omega)], fun i _ => by rw [sd_s_a (by omega)]⟩
theorem rl_q3_5 {r i : Nat} {M : sd_M} {v : Int} (h : 48 * r ≤ i) : rl_q3 r M (sd_s M 335 i v) := ⟨fun a _ _ _ x _ _ => sd_s_a x, fun j _ _ _ _ _ _ _ _ => by rw [sd_s_a (by omega)], fun i _ => by rw [sd_s_a (by omega)], fun j hj => by rw [sd_s_j (by omega)], fun i _ => by rw [sd_s_a (by omega)]⟩
theorem rl_q3_6 {r : Nat} {M : sd_M} {v : Int} : rl_q3 r M (sd_s M 336 r v) := ⟨fun a _ _ _ _ x _ => sd_s_a x, fun j _ _ _ _ _ _ _ _ => by rw [sd_s_a (by omega)], fun i _ => by rw [sd_s_a (by omega)], fun j hj => by rw [sd_s_a (by omega)], fun i x => sd_s_j x⟩
/-! kinds of a clause's code -/
theorem rl_trc {P V P2 V2 : Nat → Int} : ∀ (m i : Nat) (t : List Bool), (∀ j, i ≤ j → j < i + m → P2 j = P j ∧ V2 j = V j) → ms_tr P2 V2 m i t = ms_tr P V m i t
  | 0, i, t, _ => rfl
  | m + 1, i, t, h => by
    have e := h i (Nat.le_refl _) (by omega)
    rw [ms_tr, ms_tr, e.1, e.2]
    refine congrArg (Option.bind _) (funext fun t2 => ?_)
    exact rl_trc m (i + 1) t2 (fun j a b => h j (by omega) (by omega))
theorem rl_tr0 {F : List (Int × Int)} : ∀ (E C : List (Int × Int)) (t : List Bool), ms_tr (fun i => (rl_g (C ++ (E ++ F)) i).1) (fun i => (rl_g (C ++ (E ++ F)) i).2) E.length C.length t = rl_t E t
  | [], C, t => rfl
  | e :: E, C, t => by
    have g : rl_g (C ++ (e :: E ++ F)) C.length = e := by
      unfold rl_g
      rw [List.getD_eq_getElem?_getD, List.getElem?_append_right (Nat.le_refl _), Nat.sub_self]
      rfl
    have q := fun t => rl_tr0 (F := F) E (C ++ [e]) t
    have l : (C ++ [e]).length = C.length + 1 := by rw [List.length_append]; rfl
    rw [l, show C ++ [e] ++ (E ++ F) = C ++ (e :: E ++ F) by simp] at q
    rw [List.length_cons, ms_tr, rl_t, g]
    refine congrArg (Option.bind _) (funext fun t2 => ?_)
    exact q t2
def rl_k (D : List (Int × Int)) (a b : Nat) (y : Bool) : Prop := (a ≤ b ∧ b ≤ D.length) ∧ ms_tr (fun i => (rl_g D i).1) (fun i => (rl_g D i).2) (b - a) a [] = some [y]
theorem rl_k_e {C E : List (Int × Int)} {y : Bool} (h : rl_t E [] = some [y]) : rl_k (C ++ E) C.length (C ++ E).length y := by
  have q := rl_tr0 (F := []) E C []
  have l : (C ++ E).length = C.length + E.length := List.length_append
  rw [List.append_nil] at q
  refine ⟨by omega, ?_⟩
  rw [show (C ++ E).length - C.length = E.length by omega, q, h]
theorem rl_k_l {D E : List (Int × Int)} {a b : Nat} {y : Bool} (h : rl_k D a b y) : rl_k (D ++ E) a b y := by
  have l : (D ++ E).length = D.length + E.length := List.length_append
  obtain ⟨h1, h2⟩ := h
  refine ⟨by omega, ?_⟩
  rw [rl_trc (P := fun i => (rl_g D i).1) (V := fun i => (rl_g D i).2) (b - a) a [] (fun j x y => ?_)]
  · exact h2
  · rw [rl_g_l (by omega)]
    exact ⟨rfl, rfl⟩
def rl_kq (D : List (Int × Int)) (x : Nat × Nat × Nat) : Prop := rl_k D x.1 x.2.1 false ∧ (x.2.1 ≤ x.2.2 ∧ x.2.2 ≤ D.length) ∧ (x.2.1 = x.2.2 ∨ rl_k D x.2.1 x.2.2 true)
theorem rl_kq_l {D E : List (Int × Int)} {x : Nat × Nat × Nat} (h : rl_kq D x) : rl_kq (D ++ E) x := by
  have l : (D ++ E).length = D.length + E.length := List.length_append
  obtain ⟨h1, h2, h3⟩ := h
  refine ⟨rl_k_l h1, by omega, ?_⟩
  rcases h3 with q | q
  · exact Or.inl q
  · exact Or.inr (rl_k_l q)
theorem rl_ok_t {n p k pd p2 k2 : Nat} {x : Bool} {C D : List (Int × Int)} (h : rl_ok n p k pd [] x C p2 k2 D) : ∃ E, D = C ++ E ∧ rl_cd E ∧ rl_k D C.length D.length x ∧ E ≠ [] := by
  obtain ⟨⟨E, e, cd, t⟩, _, _, _⟩ := h
  have q := t [] (Nat.zero_le _)
  rw [List.nil_append] at q
  refine ⟨E, e, cd, by rw [e]; exact rl_k_e q, fun w => ?_⟩
  rw [w, rl_t] at q
  cases q
