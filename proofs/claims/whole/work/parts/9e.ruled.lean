/-! sums, alike -/
theorem rl_cop {B : Nat → Int} {n p R k : Nat} {C : List (Int × Int)} {N : sd_M} (hR : 16 ≤ R) (s : Int) (g : sd_M → Option (Int × sd_M)) (rc : rl_c N R C k) (cs : tx_cs N B n p) (hC : C.length < 400) : ∃ N2, (if s = -1 then g N else (f_X4_add R s 0 N).bind fun r => g r.2) = g N2 ∧ rl_c N2 R (C ++ rl_op s) k ∧ tx_cs N2 B n p ∧ rl_f R N N2 := by
  unfold rl_op
  by_cases c : s = -1
  · rw [if_pos c, if_pos c, List.append_nil]
    exact ⟨N, rfl, rc, cs, fun _ _ _ _ _ _ => rfl, fun _ _ _ => rfl, rfl⟩
  · rw [if_neg c, if_neg c]
    obtain ⟨N2, e, rc2, f2, lo⟩ := rl_add hR rc hC s 0
    rw [e, Option.bind_some]
    exact ⟨N2, rfl, rc2, rl_add_cs cs lo, f2⟩
theorem rl_rop {B : Nat → Int} {n p r k : Nat} {C : List (Int × Int)} {L : sd_M} (hr : r < 6) (s : Int) (g : sd_M → Option (Int × sd_M)) {z : Int} (hs : s = -1 ∨ (0 ≤ s ∧ s ≤ 14)) (hz : z = ms_gi s) (rr : rl_r L r C k) (rs : tx_rs L B n p) (hC : C.length < 400) : ∃ L2, (if s = -1 then g L else (f_X10_puts z 0 L).bind fun r => g r.2) = g L2 ∧ rl_r L2 r (C ++ rl_op s) k ∧ tx_rs L2 B n p ∧ rl_q r L L2 := by
  unfold rl_op
  by_cases c : s = -1
  · rw [if_pos c, if_pos c, List.append_nil]
    exact ⟨L, rfl, rr, rs, fun _ _ _ _ => rfl, fun _ _ _ _ _ => rfl, fun _ _ => rfl⟩
  · rw [if_neg c, if_neg c]
    obtain ⟨L2, e, rr2, f2, l331⟩ := rl_puts hr rr hC (s := s) (v := 0) (g := z) (by omega) hz (by omega)
    rw [e, Option.bind_some]
    exact ⟨L2, rfl, rr2, tx_rs_c rs (by rw [l331]) (by rw [l331]) (f2.1 332 (by omega) (by omega) (by omega)), f2⟩
def rl_cd (E : List (Int × Int)) : Prop := ∀ x ∈ E, (0 ≤ x.1 ∧ x.1 ≤ 14) ∧ (0 ≤ x.2 ∧ x.2 ≤ 99999)
def rl_pre (cl wi : Int) : List Bool := (if cl = -1 then [] else [false]) ++ (if wi = -1 then [] else [false])
def rl_pd (cl wi : Int) : Nat := (if cl = -1 then 0 else 1) + (if wi = -1 then 0 else 1)
theorem rl_v_ok {B : Nat → Int} {n p k : Nat} (hbb : ∀ j, j < n → -128 ≤ B j ∧ B j < 128) (hp : p ≤ n) : rl_p (rl_v B n p k) (fun f => 0 < f) (fun p2 k2 d => k < 60 ∧ k2 = k + 1 ∧ p < p2 ∧ p2 ≤ n ∧ ∃ x, d = [x] ∧ rl_cd d ∧ ∀ t : List Bool, t.length ≤ k → ms_t1 x.1 x.2 t = some (false :: t)) := by
  have f1 : ∀ p w, 0 < sl_f p w := fun p w => by unfold sl_f; omega
  have nx : p < n → p < tx_nx B n p ∧ tx_nx B n p ≤ n := by
    intro pn
    have l := tx_len_b (B := B) pn
    have s := tx_s_b (B := B) l.2
    unfold tx_nx
    rw [if_neg (by omega)]
    omega
  unfold rl_v
  by_cases c1 : tx_kd B n p = 513
  · rw [if_pos c1]
    have pn := ((tx_kd_d hbb).mpr c1).1
    have vb := tx_vl_b hbb c1
    by_cases c2 : tx_vl B n p = -1
    · rw [if_pos c2]
      exact f1 _ _
    rw [if_neg c2]
    by_cases c3 : 60 ≤ k
    · rw [if_pos c3]
      exact f1 _ _
    rw [if_neg c3]
    refine ⟨by omega, rfl, (nx pn).1, (nx pn).2, _, rfl, fun x hx => ?_, fun t ht => ?_⟩
    · rw [List.mem_singleton.mp hx]
      simp only []
      omega
    · unfold ms_t1
      rw [if_pos rfl, if_pos (by omega)]
  · rw [if_neg c1]
    by_cases c2 : 600 ≤ tx_kd B n p ∧ tx_kd B n p < 611
    · rw [if_pos c2]
      have pn := (tx_nx_w hp hbb c2.1).1
      by_cases c3 : 60 ≤ k
      · rw [if_pos c3]
        exact f1 _ _
      rw [if_neg c3]
      refine ⟨by omega, rfl, (nx pn).1, (nx pn).2, _, rfl, fun x hx => ?_, fun t ht => ?_⟩
      · rw [List.mem_singleton.mp hx]
        simp only []
        omega
      · unfold ms_t1
        simp only []
        rw [if_neg (by decide), if_pos (by trivial), if_pos (by omega)]
    · rw [if_neg c2]
      exact f1 _ _
/-- what a sum's reading leaves -/
def rl_ok (n p k pd : Nat) (pre : List Bool) (x : Bool) (C : List (Int × Int)) (p2 k2 : Nat) (D : List (Int × Int)) : Prop := (∃ E, D = C ++ E ∧ rl_cd E ∧ ∀ t : List Bool, (pre ++ t).length ≤ k → rl_t E (pre ++ t) = some (x :: t)) ∧ (D.length + p ≤ C.length + pd + p2 ∧ p < p2 ∧ p2 ≤ n) ∧ k < k2 ∧ k2 ≤ 60
theorem rl_t_op {s : Int} (hs : s = 2 ∨ s = 3 ∨ s = 4 ∨ s = 5 ∨ s = 6) (t : List Bool) : ms_t1 s 0 (false :: false :: t) = some (false :: t) := by
  unfold ms_t1
  rw [if_neg (by omega), if_neg (by omega), if_neg (by omega), if_pos (by omega)]
/-- behind a value and what closes on it -/
theorem rl_t_v {x : Int × Int} {cl wi : Int} {k : Nat} (hx : ∀ t : List Bool, t.length ≤ k → ms_t1 x.1 x.2 t = some (false :: t)) (hc : cl = -1 ∨ cl = 4 ∨ cl = 5 ∨ cl = 6) (t : List Bool) (ht : (rl_pre cl wi ++ t).length ≤ k) : rl_t ([x] ++ rl_op cl) (rl_pre cl wi ++ t) = some (false :: (rl_pre (-1) wi ++ t)) := by
  rw [rl_t_a, rl_t, hx _ ht, Option.bind_some, rl_t, Option.bind_some]
  unfold rl_op rl_pre
  by_cases c : cl = -1
  · rw [if_pos c, if_pos c, if_pos rfl]
    rfl
  · rw [if_neg c, if_neg c, if_pos rfl, rl_t]
    have e := rl_t_op (s := cl) (by omega) ((if wi = -1 then [] else [false]) ++ t)
    rw [show ((cl, (0 : Int)).1) = cl from rfl, show ((cl, (0 : Int)).2) = 0 from rfl]
    rw [show false :: ([false] ++ (if wi = -1 then [] else [false]) ++ t) = false :: false :: ((if wi = -1 then [] else [false]) ++ t) from rfl, e, Option.bind_some, rl_t]
    rfl
theorem rl_t_w {wi : Int} (hw : wi = -1 ∨ wi = 2 ∨ wi = 3) (t : List Bool) : rl_t (rl_op wi) (false :: (rl_pre (-1) wi ++ t)) = some (false :: t) := by
  unfold rl_op rl_pre
  by_cases c : wi = -1
  · rw [if_pos c, if_pos rfl, if_pos c]
    rfl
  · rw [if_neg c, if_pos rfl, if_neg c, rl_t]
    have e := rl_t_op (s := wi) (by omega) t
    rw [show ((wi, (0 : Int)).1) = wi from rfl, show ((wi, (0 : Int)).2) = 0 from rfl]
    rw [show false :: ([] ++ [false] ++ t) = false :: false :: t from rfl, e, Option.bind_some, rl_t]
theorem rl_cd_op {s : Int} (hs : s = -1 ∨ (0 ≤ s ∧ s ≤ 14)) : rl_cd (rl_op s) := by
  intro x hx
  unfold rl_op at hx
  by_cases c : s = -1
  · rw [if_pos c] at hx
    exact absurd hx (by simp)
  · rw [if_neg c] at hx
    rw [List.mem_singleton.mp hx]
    simp only []
    omega
theorem rl_cd_a {D E : List (Int × Int)} (h : rl_cd D) (g : rl_cd E) : rl_cd (D ++ E) := fun x hx => by
  rcases List.mem_append.mp hx with q | q
  · exact h x q
  · exact g x q
theorem rl_op_l {s : Int} : (rl_op s).length = if s = -1 then 0 else 1 := by
  unfold rl_op
  split <;> rfl
