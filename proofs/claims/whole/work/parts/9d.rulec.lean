/-! sums: the class's one loop, the reference's two -/
def rl_so (k : Int) : Int := if k = 37 then 6 else if k = 42 then 4 else if k = 43 then 2 else if k = 45 then 3 else if k = 47 then 5 else if k = 60 then 7 else if k = 61 then 9 else if k = 62 then 11 else if k = 316 then 8 else if k = 318 then 10 else -1
theorem rl_so_e {k : Int} {M : sd_M} : f_X5_stepOf k M = some (rl_so k, M) := by
  unfold f_X5_stepOf rl_so
  by_cases c1 : k = 37
  · rw [if_pos c1, if_pos c1]
  rw [if_neg c1, if_neg c1]
  by_cases c2 : k = 42
  · rw [if_pos c2, if_pos c2]
  rw [if_neg c2, if_neg c2]
  by_cases c3 : k = 43
  · rw [if_pos c3, if_pos c3]
  rw [if_neg c3, if_neg c3]
  by_cases c4 : k = 45
  · rw [if_pos c4, if_pos c4]
  rw [if_neg c4, if_neg c4]
  by_cases c5 : k = 47
  · rw [if_pos c5, if_pos c5]
  rw [if_neg c5, if_neg c5]
  by_cases c6 : k = 60
  · rw [if_pos c6, if_pos c6]
  rw [if_neg c6, if_neg c6]
  by_cases c7 : k = 61
  · rw [if_pos c7, if_pos c7]
  rw [if_neg c7, if_neg c7]
  by_cases c8 : k = 62
  · rw [if_pos c8, if_pos c8]
  rw [if_neg c8, if_neg c8]
  by_cases c9 : k = 316
  · rw [if_pos c9, if_pos c9]
  rw [if_neg c9, if_neg c9]
  by_cases c10 : k = 318
  · rw [if_pos c10, if_pos c10]
  rw [if_neg c10, if_neg c10]
theorem rl_so_c {k : Int} : (rl_so k = 4 ↔ k = 42) ∧ (rl_so k = 5 ↔ k = 47) ∧ (rl_so k = 6 ↔ k = 37) ∧ (rl_so k = 2 ↔ k = 43) ∧ (rl_so k = 3 ↔ k = 45) := by
  unfold rl_so
  refine ⟨?_, ?_, ?_, ?_, ?_⟩ <;> (repeat' split) <;> omega
def rl_op (s : Int) : List (Int × Int) := if s = -1 then [] else [(s, 0)]
/-- the kinds of what is on the stack behind a code -/
def rl_t : List (Int × Int) → List Bool → Option (List Bool)
  | [], t => some t
  | c :: D, t => (ms_t1 c.1 c.2 t).bind fun t2 => rl_t D t2
theorem rl_t_a : ∀ (D E : List (Int × Int)) (t : List Bool), rl_t (D ++ E) t = (rl_t D t).bind fun t2 => rl_t E t2
  | [], E, t => rfl
  | c :: D, E, t => by
    rw [List.cons_append, rl_t, rl_t]
    cases ms_t1 c.1 c.2 t with
    | none => rfl
    | some t2 =>
      rw [Option.bind_some, Option.bind_some]
      exact rl_t_a D E t2
def rl_RT (cl : Int) (fu : Nat) (r : Int × sd_M) : Option (Int × sd_M) := if r.1 = 0 then some (0, r.2) else if cl = -1 then f_X10_term_9 fu r.2 else (f_X10_puts (ms_gi cl) 0 r.2).bind fun r3 => f_X10_term_9 fu r3.2
def rl_RS (wi : Int) (fu : Nat) (r : Int × sd_M) : Option (Int × sd_M) := if r.1 = 0 then some (0, r.2) else if wi = -1 then f_X10_sum_9 fu r.2 else (f_X10_puts wi 0 r.2).bind fun r3 => f_X10_sum_9 fu r3.2
theorem rl_term_e {K : sd_M} : f_X10_term K = (f_X10_value K).bind (rl_RT (-1) 4000) := rfl
theorem rl_t74 {cl : Int} {fu : Nat} {M : sd_M} (hc : cl ≠ -1) : f_X10_term_74 (f_X10_term_9 fu) (ms_gi cl) M = (f_X10_value (sd_s M 331 8 (sd_w ((M 331 8) + 1)))).bind (rl_RT cl fu) := by
  have e : rl_RT cl fu = fun r1 => if r1.1 = 0 then some (0, r1.2) else (f_X10_puts (ms_gi cl) 0 r1.2).bind fun r3 => f_X10_term_9 fu r3.2 := by
    funext r
    unfold rl_RT
    rw [if_neg hc]
  rw [e]
  rfl
theorem rl_s46 {wi : Int} {fu : Nat} {M : sd_M} (hc : wi ≠ -1) : f_X10_sum_46 (f_X10_sum_9 fu) wi M = (f_X10_term (sd_s M 331 8 (sd_w ((M 331 8) + 1)))).bind (rl_RS wi fu) := by
  have e : rl_RS wi fu = fun r1 => if r1.1 = 0 then some (0, r1.2) else (f_X10_puts wi 0 r1.2).bind fun r3 => f_X10_sum_9 fu r3.2 := by
    funext r
    unfold rl_RS
    rw [if_neg hc]
  rw [e]
  rfl
theorem rl_term9 {N : sd_M} {B : Nat → Int} {n p : Nat} (rs : tx_rs N B n p) (fu : Nat) : ((tx_kd B n p = 42 ∨ tx_kd B n p = 47 ∨ tx_kd B n p = 37) → f_X10_term_9 (fu + 1) N = (f_X10_value (sd_s N 331 8 ((p + 1 : Nat) : Int))).bind (rl_RT (rl_so (tx_kd B n p)) fu)) ∧ (¬ (tx_kd B n p = 42 ∨ tx_kd B n p = 47 ∨ tx_kd B n p = 37) → f_X10_term_9 (fu + 1) N = some (1, sd_s N 331 8 (p : Int))) := by
  have hbb : ∀ j, j < n → -128 ≤ B j ∧ B j < 128 := fun j hj => (rs.1.2.2 j hj).2
  have b := tx_rs_b rs
  have S42 := tx_sg (B := B) (n := n) (p := p) hbb (s := 42) (by omega) (by omega) (by omega) (by omega)
  have S47 := tx_sg (B := B) (n := n) (p := p) hbb (s := 47) (by omega) (by omega) (by omega) (by omega)
  have S37 := tx_sg (B := B) (n := n) (p := p) hbb (s := 37) (by omega) (by omega) (by omega) (by omega)
  have rs8 := tx_rs_8 rs
  have e8 := tx_see rs8
  rw [sd_s_ss] at e8
  have q8 : sd_s N 331 8 (p : Int) 331 8 = (p : Int) := sd_s_at
  have s1 : p < n → sd_w ((p : Int) + 1) = ((p + 1 : Nat) : Int) := fun _ => by rw [sd_wid (by omega) (by omega)]; rfl
  have t36 : ∀ (c g : Int), p < n → B p = c → (c = 42 ∧ g = 4) ∨ (c = 47 ∧ g = 5) ∨ (c = 37 ∧ g = 6) → f_X10_term_36 (f_X10_term_9 fu) (sd_s N 331 8 (p : Int)) = (f_X10_value (sd_s N 331 8 ((p + 1 : Nat) : Int))).bind (rl_RT g fu) := by
    intro c g pn bp hc
    have e2 : (sd_s N 331 8 (p : Int)) 332 p = c := by rw [(rs8.1.2.2 p pn).1, bp]
    unfold f_X10_term_36
    rw [q8, if_pos (by omega), Int.toNat_natCast, e2]
    rcases hc with ⟨h1, h2⟩ | ⟨h1, h2⟩ | ⟨h1, h2⟩
    · rw [h1, if_pos rfl, h2]
      refine Eq.trans (rl_t74 (cl := 4) (by decide)) ?_
      rw [q8, s1 pn, sd_s_ss]
    · rw [h1, if_neg (by decide), if_pos (by omega), if_pos rfl, h2]
      refine Eq.trans (rl_t74 (cl := 5) (by decide)) ?_
      rw [q8, s1 pn, sd_s_ss]
    · rw [h1, if_neg (by decide), if_pos (by omega), if_neg (by decide), h2]
      refine Eq.trans (rl_t74 (cl := 6) (by decide)) ?_
      rw [q8, s1 pn, sd_s_ss]
  rw [f_X10_term_9, tx_see rs, Option.bind_some]
  simp only []
  rw [e8, Option.bind_some]
  simp only []
  rw [e8, Option.bind_some]
  simp only []
  constructor
  · intro w
    by_cases c1 : tx_kd B n p = 42
    · obtain ⟨pn, bp, _⟩ := S42.2 c1
      rw [if_pos (S42.1.mpr c1), t36 42 4 pn bp (Or.inl ⟨rfl, rfl⟩), rl_so_c.1.mpr c1]
    · rw [if_neg (fun x => c1 (S42.1.mp x))]
      by_cases c2 : tx_kd B n p = 47
      · obtain ⟨pn, bp, _⟩ := S47.2 c2
        rw [if_pos (S47.1.mpr c2), t36 47 5 pn bp (Or.inr (Or.inl ⟨rfl, rfl⟩)), rl_so_c.2.1.mpr c2]
      · have c3 : tx_kd B n p = 37 := by omega
        obtain ⟨pn, bp, _⟩ := S37.2 c3
        rw [if_neg (fun x => c2 (S47.1.mp x)), if_pos (S37.1.mpr c3), t36 37 6 pn bp (Or.inr (Or.inr ⟨rfl, rfl⟩)), rl_so_c.2.2.1.mpr c3]
  · intro w
    rw [if_neg (fun x => w (Or.inl (S42.1.mp x))), if_neg (fun x => w (Or.inr (Or.inl (S47.1.mp x)))), if_neg (fun x => w (Or.inr (Or.inr (S37.1.mp x))))]
theorem rl_sum9 {N : sd_M} {B : Nat → Int} {n p : Nat} (rs : tx_rs N B n p) (fu : Nat) : ((tx_kd B n p = 43 ∨ tx_kd B n p = 45) → f_X10_sum_9 (fu + 1) N = (f_X10_term (sd_s N 331 8 ((p + 1 : Nat) : Int))).bind (rl_RS (rl_so (tx_kd B n p)) fu)) ∧ (¬ (tx_kd B n p = 43 ∨ tx_kd B n p = 45) → f_X10_sum_9 (fu + 1) N = some (1, sd_s N 331 8 (p : Int))) := by
  have hbb : ∀ j, j < n → -128 ≤ B j ∧ B j < 128 := fun j hj => (rs.1.2.2 j hj).2
  have b := tx_rs_b rs
  have S43 := tx_sg (B := B) (n := n) (p := p) hbb (s := 43) (by omega) (by omega) (by omega) (by omega)
  have S45 := tx_sg (B := B) (n := n) (p := p) hbb (s := 45) (by omega) (by omega) (by omega) (by omega)
  have rs8 := tx_rs_8 rs
  have e8 := tx_see rs8
  rw [sd_s_ss] at e8
  have q8 : sd_s N 331 8 (p : Int) 331 8 = (p : Int) := sd_s_at
  have s1 : p < n → sd_w ((p : Int) + 1) = ((p + 1 : Nat) : Int) := fun _ => by rw [sd_wid (by omega) (by omega)]; rfl
  have t27 : ∀ (c g : Int), p < n → B p = c → (c = 43 ∧ g = 2) ∨ (c = 45 ∧ g = 3) → f_X10_sum_27 (f_X10_sum_9 fu) (sd_s N 331 8 (p : Int)) = (f_X10_term (sd_s N 331 8 ((p + 1 : Nat) : Int))).bind (rl_RS g fu) := by
    intro c g pn bp hc
    have e2 : (sd_s N 331 8 (p : Int)) 332 p = c := by rw [(rs8.1.2.2 p pn).1, bp]
    unfold f_X10_sum_27
    rw [q8, if_pos (by omega), Int.toNat_natCast, e2]
    rcases hc with ⟨h1, h2⟩ | ⟨h1, h2⟩
    · rw [h1, if_pos rfl, h2]
      refine Eq.trans (rl_s46 (wi := 2) (by decide)) ?_
      rw [q8, s1 pn, sd_s_ss]
    · rw [h1, if_neg (by decide), h2]
      refine Eq.trans (rl_s46 (wi := 3) (by decide)) ?_
      rw [q8, s1 pn, sd_s_ss]
  rw [f_X10_sum_9, tx_see rs, Option.bind_some]
  simp only []
  rw [e8, Option.bind_some]
  simp only []
  constructor
  · intro w
    by_cases c1 : tx_kd B n p = 43
    · obtain ⟨pn, bp, _⟩ := S43.2 c1
      rw [if_pos (S43.1.mpr c1), t27 43 2 pn bp (Or.inl ⟨rfl, rfl⟩), rl_so_c.2.2.2.1.mpr c1]
    · have c3 : tx_kd B n p = 45 := by omega
      obtain ⟨pn, bp, _⟩ := S45.2 c3
      rw [if_neg (fun x => c1 (S43.1.mp x)), if_pos (S45.1.mpr c3), t27 45 3 pn bp (Or.inr ⟨rfl, rfl⟩), rl_so_c.2.2.2.2.mpr c3]
  · intro w
    rw [if_neg (fun x => w (Or.inl (S43.1.mp x))), if_neg (fun x => w (Or.inr (S45.1.mp x)))]
