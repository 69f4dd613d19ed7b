/-! sums: both loops end alike -/
theorem rl_119 {B : Nat → Int} {n p R k : Nat} {C : List (Int × Int)} {N : sd_M} (hR : 16 ≤ R) (k8 : Int → Int → Int → sd_M → Option (Int × sd_M)) (a b : Int) (i : Nat) (hi : i ≤ 400) (rc : rl_c N R C k) (cs : tx_cs N B n p) : ∃ N2, f_X5_readsSum_119 k8 R a b (i : Int) N = k8 a b ((i + 1 : Nat) : Int) N2 ∧ rl_c N2 R C k ∧ tx_cs N2 B n (tx_nx B n p) ∧ rl_f R N N2 := by
  obtain ⟨N2, e, cs2, a1, a2⟩ := tx_step cs
  refine ⟨N2, ?_, rl_st_c hR ⟨a1, a2⟩ rc, cs2, rl_st_f hR ⟨a1, a2⟩⟩
  unfold f_X5_readsSum_119
  rw [e, Option.bind_some, sd_wid (by omega) (by omega)]
  rfl
theorem rl_38 {B : Nat → Int} {n p R : Nat} {N : sd_M} (k8 : Int → Int → Int → sd_M → Option (Int × sd_M)) (wi i : Int) (cs : tx_cs N B n p) : ((tx_kd B n p = 42 ∨ tx_kd B n p = 47 ∨ tx_kd B n p = 37) → f_X5_readsSum_38 k8 R wi i N = f_X5_readsSum_119 k8 R (rl_so (tx_kd B n p)) wi i N) ∧ (¬ (tx_kd B n p = 42 ∨ tx_kd B n p = 47 ∨ tx_kd B n p = 37) → f_X5_readsSum_38 k8 R wi i N = if wi = -1 then f_X5_readsSum_91 k8 R (-1) i (rl_so (tx_kd B n p)) N else (f_X4_add R wi 0 N).bind fun r => f_X5_readsSum_91 k8 R (-1) i (rl_so (tx_kd B n p)) r.2) := by
  have sc := rl_so_c (k := tx_kd B n p)
  unfold f_X5_readsSum_38
  rw [tx_kind cs, Option.bind_some]
  simp only []
  rw [rl_so_e, Option.bind_some]
  simp only []
  generalize rl_so (tx_kd B n p) = s at sc
  have e66 : s ≠ -1 → f_X5_readsSum_66 k8 R wi i s N = f_X5_readsSum_119 k8 R s wi i N := by
    intro h
    unfold f_X5_readsSum_66 f_X5_readsSum_72
    rw [if_neg h]
  constructor
  · intro w
    by_cases c1 : s = 4
    · rw [if_pos c1]
      exact e66 (by omega)
    rw [if_neg c1]
    by_cases c2 : s = 5
    · rw [if_pos c2]
      exact e66 (by omega)
    rw [if_neg c2, if_pos (show s = 6 by omega)]
    exact e66 (by omega)
  · intro w
    rw [if_neg (show ¬ s = 4 by omega), if_neg (show ¬ s = 5 by omega), if_neg (show ¬ s = 6 by omega)]
    unfold f_X5_readsSum_72
    rw [if_pos (show (-1 : Int) = -1 from rfl)]
theorem rl_91 {R : Nat} {N : sd_M} (k8 : Int → Int → Int → sd_M → Option (Int × sd_M)) (i s : Int) : (s = 2 ∨ s = 3 → f_X5_readsSum_91 k8 R (-1) i s N = f_X5_readsSum_119 k8 R (-1) s i N) ∧ (¬ (s = 2 ∨ s = 3) → f_X5_readsSum_91 k8 R (-1) i s N = some (1, N)) := by
  unfold f_X5_readsSum_91
  constructor
  · intro w
    have e : f_X5_readsSum_103 k8 R (-1) i s N = f_X5_readsSum_119 k8 R (-1) s i N := by
      unfold f_X5_readsSum_103 f_X5_readsSum_109
      rw [if_neg (by omega)]
    by_cases c : s = 2
    · rw [if_pos c]
      exact e
    · rw [if_neg c, if_pos (by omega)]
      exact e
  · intro w
    rw [if_neg (by omega), if_neg (by omega)]
    unfold f_X5_readsSum_109
    rw [if_pos rfl]
theorem rl_p_w {o : rl_R} {no no2 : Int → Prop} {ok ok2 : Nat → Nat → List (Int × Int) → Prop} (h : rl_p o no ok) (h1 : ∀ f, no f → no2 f) (h2 : ∀ p k D, ok p k D → ok2 p k D) : rl_p o no2 ok2 := by
  cases o with
  | inl f => exact h1 f h
  | inr x => exact h2 x.1 x.2.1 x.2.2 h
def rl_Cl (B : Nat → Int) (n R : Nat) (o : rl_R) (M : sd_M) (g : Option (Int × sd_M)) : Prop := rl_p o (fun f => ∃ N, g = some (0, N) ∧ N 1 2 = f ∧ rl_f R M N) (fun p2 k2 D => ∃ N, g = some (1, N) ∧ tx_cs N B n p2 ∧ rl_c N R D k2 ∧ rl_f R M N)
def rl_Rf (B : Nat → Int) (n r : Nat) (o : rl_R) (K : sd_M) (g : Option (Int × sd_M)) : Prop := rl_p o (fun f => ∃ L, g = some (0, L) ∧ L 331 9 = f ∧ rl_q r K L) (fun p2 k2 D => ∃ L, g = some (1, L) ∧ tx_rs L B n p2 ∧ rl_r L r D k2 ∧ rl_q r K L)
theorem rl_Cl_tr {B : Nat → Int} {n R : Nat} {o : rl_R} {M N : sd_M} {g : Option (Int × sd_M)} (f : rl_f R M N) (h : rl_Cl B n R o N g) : rl_Cl B n R o M g := rl_p_w h (fun _ q => by
  obtain ⟨K, e, a, b⟩ := q
  exact ⟨K, e, a, rl_f_tr f b⟩) (fun _ _ _ q => by
  obtain ⟨K, e, a, c, b⟩ := q
  exact ⟨K, e, a, c, rl_f_tr f b⟩)
theorem rl_Rf_tr {B : Nat → Int} {n r : Nat} {o : rl_R} {K L : sd_M} {g : Option (Int × sd_M)} (f : rl_q r K L) (h : rl_Rf B n r o L g) : rl_Rf B n r o K g := rl_p_w h (fun _ q => by
  obtain ⟨K, e, a, b⟩ := q
  exact ⟨K, e, a, rl_q_tr f b⟩) (fun _ _ _ q => by
  obtain ⟨K, e, a, c, b⟩ := q
  exact ⟨K, e, a, c, rl_q_tr f b⟩)
/-- the reference steps over a sign -/
theorem rl_sgn {B : Nat → Int} {n p r k : Nat} {C : List (Int × Int)} {L : sd_M} (rr : rl_r L r C k) (rs : tx_rs L B n p) (pn : p < n) (nx : tx_nx B n p = tx_s B n (p + 1)) : tx_rs (sd_s L 331 8 ((p + 1 : Nat) : Int)) B n (tx_nx B n p) ∧ rl_r (sd_s L 331 8 ((p + 1 : Nat) : Int)) r C k ∧ rl_q r L (sd_s L 331 8 ((p + 1 : Nat) : Int)) := by
  refine ⟨?_, rl_r_c rr (sd_s_j (by omega)) (by rw [sd_s_j (by omega)]; exact rr.1.2.1) (by rw [sd_s_j (by omega)]; exact rr.1.2.2) (sd_s_a (by omega)) (sd_s_a (by omega)), rl_q_s (by omega)⟩
  rw [nx]
  exact tx_rs_n rs.1 (by omega)
theorem rl_see8 {B : Nat → Int} {n p r k : Nat} {C : List (Int × Int)} {L : sd_M} (rr : rl_r L r C k) (rs : tx_rs L B n p) : tx_rs (sd_s L 331 8 (p : Int)) B n p ∧ rl_r (sd_s L 331 8 (p : Int)) r C k ∧ rl_q r L (sd_s L 331 8 (p : Int)) :=
  ⟨tx_rs_8 rs, rl_r_c rr (sd_s_j (by omega)) (by rw [sd_s_j (by omega)]; exact rr.1.2.1) (by rw [sd_s_j (by omega)]; exact rr.1.2.2) (sd_s_a (by omega)) (sd_s_a (by omega)), rl_q_s (by omega)⟩
theorem rl_sum_l {B : Nat → Int} {n R r : Nat} (hbb : ∀ j, j < n → -128 ≤ B j ∧ B j < 128) (n4 : n ≤ 400) (hR : 16 ≤ R) (hr : r < 6) : ∀ (m k : Nat) (cl wi : Int) (p : Nat) (C : List (Int × Int)), k + m = 60 → (cl = -1 ∨ cl = 4 ∨ cl = 5 ∨ cl = 6) → (wi = -1 ∨ wi = 2 ∨ wi = 3) → C.length + rl_pd cl wi < p → p ≤ n → ∃ o : rl_R, rl_p o (fun f => 0 < f) (rl_ok n p k (rl_pd cl wi) (rl_pre cl wi) false C) ∧ (∀ (M : sd_M) (fu i : Nat), m < fu → i + m ≤ 400 → tx_cs M B n p → rl_c M R C k → rl_Cl B n R o M (f_X5_readsSum_8 R fu cl wi (i : Int) M)) ∧ (∀ (K : sd_M) (fu1 fu2 : Nat), m < fu1 → m < fu2 → tx_rs K B n p → rl_r K r C k → rl_Rf B n r o K (((f_X10_value K).bind (rl_RT cl fu1)).bind (rl_RS wi fu2))) := by
  intro m
  induction m using Nat.strongRecOn with
  | ind m ih =>
    intro k cl wi p C hk hcl hwi hC hp
    have V := rl_v_ok (B := B) (n := n) (p := p) (k := k) hbb hp
    have VC := fun (M : sd_M) (cs : tx_cs M B n p) (rc : rl_c M R C k) => rl_vc hR cs rc (by omega) (by omega)
    have VR := fun (K : sd_M) (rs : tx_rs K B n p) (rr : rl_r K r C k) => rl_vr hr rs rr (by omega) (by omega)
    generalize rl_v B n p k = ov at V VC VR
    cases ov with
    | inl f =>
      refine ⟨.inl f, V, fun M fu i hf hi cs rc => ?_, fun K fu1 fu2 h1 h2 rs rr => ?_⟩
      · obtain ⟨fu, rfl⟩ : ∃ g, fu = g + 1 := ⟨fu - 1, by omega⟩
        obtain ⟨N, e, n2, fr⟩ := VC M cs rc
        refine ⟨N, ?_, n2, fr⟩
        rw [f_X5_readsSum_8, if_neg (by omega), e, Option.bind_some]
        rfl
      · obtain ⟨L, e, l9, fr⟩ := VR K rs rr
        refine ⟨L, ?_, l9, fr⟩
        rw [e]
        rfl
    | inr x =>
      obtain ⟨p1, k1, d⟩ := x
      obtain ⟨k60, hk1, pp1, p1n, x, hd, cdd, tx⟩ := V
      simp only [] at hk1 hd cdd pp1 p1n
      subst hk1 hd
      have VC : ∀ (M : sd_M), tx_cs M B n p → rl_c M R C k → ∃ N, f_X5_readsValue R M = some (1, N) ∧ tx_cs N B n p1 ∧ rl_c N R (C ++ [x]) (k + 1) ∧ rl_f R M N := VC
      have VR : ∀ (K : sd_M), tx_rs K B n p → rl_r K r C k → ∃ L, f_X10_value K = some (1, L) ∧ tx_rs L B n p1 ∧ rl_r L r (C ++ [x]) (k + 1) ∧ rl_q r K L := VR
      have tv := fun (t : List Bool) (ht : (rl_pre cl wi ++ t).length ≤ k) => rl_t_v (x := x) (cl := cl) (wi := wi) (k := k) tx hcl t ht
      have lop := rl_op_l (s := cl)
      have low := rl_op_l (s := wi)
      have epd : rl_pd cl wi = (if cl = -1 then 0 else 1) + (if wi = -1 then 0 else 1) := rfl
      rw [← lop, ← low] at epd
      have lC1 : (C ++ [x]).length = C.length + 1 := by rw [List.length_append]; rfl
      have lC2 : (C ++ [x] ++ rl_op cl).length = C.length + 1 + (rl_op cl).length := by rw [List.length_append, lC1]
      have lC3 : (C ++ [x] ++ rl_op cl ++ rl_op wi).length = C.length + 1 + (rl_op cl).length + (rl_op wi).length := by rw [List.length_append, lC2]
      have cdC : rl_cd ([x] ++ rl_op cl) := rl_cd_a cdd (rl_cd_op (by omega))
      have low1 : (rl_op wi).length ≤ 1 := by rw [low]; split <;> omega
      have lop1 : (rl_op cl).length ≤ 1 := by rw [lop]; split <;> omega
      -- the class, behind the value
      have CC : ∀ (M : sd_M) (fu i : Nat), i + m ≤ 400 → tx_cs M B n p → rl_c M R C k → ∃ N, f_X5_readsSum_8 R (fu + 1) cl wi (i : Int) M = f_X5_readsSum_38 (f_X5_readsSum_8 R fu) R wi (i : Int) N ∧ tx_cs N B n p1 ∧ rl_c N R (C ++ [x] ++ rl_op cl) (k + 1) ∧ rl_f R M N := by
        intro M fu i hi cs rc
        obtain ⟨N, e, csN, rcN, frN⟩ := VC M cs rc
        obtain ⟨N2, e2, rc2, cs2, fr2⟩ := rl_cop hR cl (f_X5_readsSum_38 (f_X5_readsSum_8 R fu) R wi (i : Int)) rcN csN (by omega)
        refine ⟨N2, ?_, cs2, rc2, rl_f_tr frN fr2⟩
        rw [← e2, f_X5_readsSum_8, if_neg (by omega), e, Option.bind_some]
        rfl
      have RR : ∀ (K : sd_M) (fu1 : Nat), tx_rs K B n p → rl_r K r C k → ∃ L, (f_X10_value K).bind (rl_RT cl fu1) = f_X10_term_9 fu1 L ∧ tx_rs L B n p1 ∧ rl_r L r (C ++ [x] ++ rl_op cl) (k + 1) ∧ rl_q r K L := by
        intro K fu1 rs rr
        obtain ⟨L, e, rsL, rrL, frL⟩ := VR K rs rr
        obtain ⟨L2, e2, rr2, rs2, fr2⟩ := rl_rop hr cl (f_X10_term_9 fu1) (z := ms_gi cl) (by omega) rfl rrL rsL (by omega)
        refine ⟨L2, ?_, rs2, rr2, rl_q_tr frL fr2⟩
        rw [← e2, e, Option.bind_some]
        rfl
      by_cases c1 : tx_kd B n p1 = 42 ∨ tx_kd B n p1 = 47 ∨ tx_kd B n p1 = 37
      · sorry
      · sorry
