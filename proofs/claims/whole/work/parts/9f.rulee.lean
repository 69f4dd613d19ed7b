/-! sums: both loops end alike -/
theorem rl_119 {B : Nat → Int} {n p R k : Nat} {C : List (Int × Int)} {N : sd_M} (hR : 16 ≤ R) (k8 : Int → Int → Int → sd_M → Option (Int × sd_M)) (a b : Int) (i : Nat) (hi : i ≤ 400) (rc : rl_c N R C k) (cs : tx_cs N B n p) : ∃ N2, f_X5_readsSum_119 k8 R a b (i : Int) N = k8 a b ((i + 1 : Nat) : Int) N2 ∧ rl_c N2 R C k ∧ tx_cs N2 B n (tx_nx B n p) ∧ rl_f R N N2 := by
  obtain ⟨N2, e, cs2, a1, a2⟩ := tx_step cs
  refine ⟨N2, ?_, rl_st_c hR ⟨a1, a2⟩ rc, cs2, rl_st_f hR ⟨a1, a2⟩⟩
  unfold f_X5_readsSum_119
  rw [e, Option.bind_some, sd_wid (by omega) (by omega)]
  rfl
theorem rl_38 {B : Nat → Int} {n p R : Nat} {N : sd_M} (k8 : Int → Int → Int → sd_M → Option (Int × sd_M)) (wi i : Int) (cs : tx_cs N B n p) : ((tx_kd B n p = 42 ∨ tx_kd B n p = 47 ∨ tx_kd B n p = 37) → f_X5_readsSum_38 k8 R wi i N = f_X5_readsSum_119 k8 R (rl_so (tx_kd B n p)) wi i N) ∧ (¬ (tx_kd B n p = 42 ∨ tx_kd B n p = 47 ∨ tx_kd B n p = 37) → f_X5_readsSum_38 k8 R wi i N = if wi = -1 then f_X5_readsSum_91 k8 R (-1) i (rl_so (tx_kd B n p)) N else (f_X4_add R wi 0 N).bind fun r => f_X5_readsSum_91 k8 R (-1) i (rl_so (tx_kd B n p)) r.2) := by
  have sc := rl_so_c (k := tx_kd B n p)
  unfold f_X5_readsSum_38
  rw [tx_kind cs, Option.bind_some]
  simp only []
  rw [rl_so_e, Option.bind_some]
  simp only []
  generalize rl_so (tx_kd B n p) = s at sc
  have e66 : s ≠ -1 → f_X5_readsSum_66 k8 R wi i s N = f_X5_readsSum_119 k8 R s wi i N := by
    intro h
    unfold f_X5_readsSum_66 f_X5_readsSum_72
    rw [if_neg h]
  constructor
  · intro w
    by_cases c1 : s = 4
    · rw [if_pos c1]
      exact e66 (by omega)
    rw [if_neg c1]
    by_cases c2 : s = 5
    · rw [if_pos c2]
      exact e66 (by omega)
    rw [if_neg c2, if_pos (show s = 6 by omega)]
    exact e66 (by omega)
  · intro w
    rw [if_neg (show ¬ s = 4 by omega), if_neg (show ¬ s = 5 by omega), if_neg (show ¬ s = 6 by omega)]
    unfold f_X5_readsSum_72
    rw [if_pos (show (-1 : Int) = -1 from rfl)]
theorem rl_91 {R : Nat} {N : sd_M} (k8 : Int → Int → Int → sd_M → Option (Int × sd_M)) (i s : Int) : (s = 2 ∨ s = 3 → f_X5_readsSum_91 k8 R (-1) i s N = f_X5_readsSum_119 k8 R (-1) s i N) ∧ (¬ (s = 2 ∨ s = 3) → f_X5_readsSum_91 k8 R (-1) i s N = some (1, N)) := by
  unfold f_X5_readsSum_91
  constructor
  · intro w
    have e : f_X5_readsSum_103 k8 R (-1) i s N = f_X5_readsSum_119 k8 R (-1) s i N := by
      unfold f_X5_readsSum_103 f_X5_readsSum_109
      rw [if_neg (by omega)]
    by_cases c : s = 2
    · rw [if_pos c]
      exact e
    · rw [if_neg c, if_pos (by omega)]
      exact e
  · intro w
    rw [if_neg (by omega), if_neg (by omega)]
    unfold f_X5_readsSum_109
    rw [if_pos rfl]
theorem rl_p_w {o : rl_R} {no no2 : Int → Prop} {ok ok2 : Nat → Nat → List (Int × Int) → Prop} (h : rl_p o no ok) (h1 : ∀ f, no f → no2 f) (h2 : ∀ p k D, ok p k D → ok2 p k D) : rl_p o no2 ok2 := by
  cases o with
  | inl f => exact h1 f h
  | inr x => exact h2 x.1 x.2.1 x.2.2 h
def rl_Cl (B : Nat → Int) (n R : Nat) (o : rl_R) (M : sd_M) (g : Option (Int × sd_M)) : Prop := rl_p o (fun f => ∃ N, g = some (0, N) ∧ N 1 2 = f ∧ rl_f R M N) (fun p2 k2 D => ∃ N, g = some (1, N) ∧ tx_cs N B n p2 ∧ rl_c N R D k2 ∧ rl_f R M N)
def rl_Rf (B : Nat → Int) (n r : Nat) (o : rl_R) (K : sd_M) (g : Option (Int × sd_M)) : Prop := rl_p o (fun f => ∃ L, g = some (0, L) ∧ L 331 9 = f ∧ rl_q r K L) (fun p2 k2 D => ∃ L, g = some (1, L) ∧ tx_rs L B n p2 ∧ rl_r L r D k2 ∧ rl_q r K L)
theorem rl_Cl_tr {B : Nat → Int} {n R : Nat} {o : rl_R} {M N : sd_M} {g : Option (Int × sd_M)} (f : rl_f R M N) (h : rl_Cl B n R o N g) : rl_Cl B n R o M g := rl_p_w h (fun _ q => by
  obtain ⟨K, e, a, b⟩ := q
  exact ⟨K, e, a, rl_f_tr f b⟩) (fun _ _ _ q => by
  obtain ⟨K, e, a, c, b⟩ := q
  exact ⟨K, e, a, c, rl_f_tr f b⟩)
theorem rl_Rf_tr {B : Nat → Int} {n r : Nat} {o : rl_R} {K L : sd_M} {g : Option (Int × sd_M)} (f : rl_q r K L) (h : rl_Rf B n r o L g) : rl_Rf B n r o K g := rl_p_w h (fun _ q => by
  obtain ⟨K, e, a, b⟩ := q
  exact ⟨K, e, a, rl_q_tr f b⟩) (fun _ _ _ q => by
  obtain ⟨K, e, a, c, b⟩ := q
  exact ⟨K, e, a, c, rl_q_tr f b⟩)
/-- the reference steps over a sign -/
theorem rl_sgn {B : Nat → Int} {n p r k : Nat} {C : List (Int × Int)} {L : sd_M} (rr : rl_r L r C k) (rs : tx_rs L B n p) (pn : p < n) (nx : tx_nx B n p = tx_s B n (p + 1)) : tx_rs (sd_s L 331 8 ((p + 1 : Nat) : Int)) B n (tx_nx B n p) ∧ rl_r (sd_s L 331 8 ((p + 1 : Nat) : Int)) r C k ∧ rl_q r L (sd_s L 331 8 ((p + 1 : Nat) : Int)) := by
  refine ⟨?_, rl_r_c rr (sd_s_j (by omega)) (by rw [sd_s_j (by omega)]; exact rr.1.2.1) (by rw [sd_s_j (by omega)]; exact rr.1.2.2) (sd_s_a (by omega)) (sd_s_a (by omega)), rl_q_s (by omega)⟩
  rw [nx]
  exact tx_rs_n rs.1 (by omega)
theorem rl_see8 {B : Nat → Int} {n p r k : Nat} {C : List (Int × Int)} {L : sd_M} (rr : rl_r L r C k) (rs : tx_rs L B n p) : tx_rs (sd_s L 331 8 (p : Int)) B n p ∧ rl_r (sd_s L 331 8 (p : Int)) r C k ∧ rl_q r L (sd_s L 331 8 (p : Int)) :=
  ⟨tx_rs_8 rs, rl_r_c rr (sd_s_j (by omega)) (by rw [sd_s_j (by omega)]; exact rr.1.2.1) (by rw [sd_s_j (by omega)]; exact rr.1.2.2) (sd_s_a (by omega)) (sd_s_a (by omega)), rl_q_s (by omega)⟩
theorem rl_pre_l {cl wi : Int} : (rl_pre cl wi).length = rl_pd cl wi := by
  unfold rl_pre rl_pd
  rw [List.length_append]
  split <;> split <;> rfl
theorem rl_nx1 {B : Nat → Int} {n p : Nat} (hp : p < n) (nx : tx_nx B n p = tx_s B n (p + 1)) : p < tx_nx B n p ∧ tx_nx B n p ≤ n := by
  have := tx_s_b (B := B) (n := n) (p := p + 1) (by omega)
  omega
theorem rl_sum_l {B : Nat → Int} {n R r : Nat} (hbb : ∀ j, j < n → -128 ≤ B j ∧ B j < 128) (n4 : n ≤ 400) (hR : 16 ≤ R) (hr : r < 6) : ∀ (m k : Nat) (cl wi : Int) (p : Nat) (C : List (Int × Int)), k + m = 60 → (cl = -1 ∨ cl = 4 ∨ cl = 5 ∨ cl = 6) → (wi = -1 ∨ wi = 2 ∨ wi = 3) → C.length + rl_pd cl wi < p → p ≤ n → ∃ o : rl_R, rl_p o (fun f => 0 < f) (rl_ok n p k (rl_pd cl wi) (rl_pre cl wi) false C) ∧ (∀ (M : sd_M) (fu i : Nat), m < fu → i + m ≤ 400 → tx_cs M B n p → rl_c M R C k → rl_Cl B n R o M (f_X5_readsSum_8 R fu cl wi (i : Int) M)) ∧ (∀ (K : sd_M) (fu1 fu2 : Nat), m < fu1 → m < fu2 → tx_rs K B n p → rl_r K r C k → rl_Rf B n r o K (((f_X10_value K).bind (rl_RT cl fu1)).bind (rl_RS wi fu2))) := by
  intro m
  induction m using Nat.strongRecOn with
  | ind m ih =>
    intro k cl wi p C hk hcl hwi hC hp
    have V := rl_v_ok (B := B) (n := n) (p := p) (k := k) hbb hp
    have VC := fun (M : sd_M) (cs : tx_cs M B n p) (rc : rl_c M R C k) => rl_vc hR cs rc (by omega) (by omega)
    have VR := fun (K : sd_M) (rs : tx_rs K B n p) (rr : rl_r K r C k) => rl_vr hr rs rr (by omega) (by omega)
    generalize rl_v B n p k = ov at V VC VR
    cases ov with
    | inl f =>
      refine ⟨.inl f, V, fun M fu i hf hi cs rc => ?_, fun K fu1 fu2 h1 h2 rs rr => ?_⟩
      · obtain ⟨fu, rfl⟩ : ∃ g, fu = g + 1 := ⟨fu - 1, by omega⟩
        obtain ⟨N, e, n2, fr⟩ := VC M cs rc
        refine ⟨N, ?_, n2, fr⟩
        rw [f_X5_readsSum_8, if_neg (by omega), e, Option.bind_some]
        rfl
      · obtain ⟨L, e, l9, fr⟩ := VR K rs rr
        refine ⟨L, ?_, l9, fr⟩
        rw [e]
        rfl
    | inr x =>
      obtain ⟨p1, k1, d⟩ := x
      obtain ⟨k60, hk1, pp1, p1n, x, hd, cdd, tx⟩ := V
      simp only [] at hk1 hd cdd pp1 p1n
      subst hk1 hd
      have VC : ∀ (M : sd_M), tx_cs M B n p → rl_c M R C k → ∃ N, f_X5_readsValue R M = some (1, N) ∧ tx_cs N B n p1 ∧ rl_c N R (C ++ [x]) (k + 1) ∧ rl_f R M N := VC
      have VR : ∀ (K : sd_M), tx_rs K B n p → rl_r K r C k → ∃ L, f_X10_value K = some (1, L) ∧ tx_rs L B n p1 ∧ rl_r L r (C ++ [x]) (k + 1) ∧ rl_q r K L := VR
      have tv := fun (t : List Bool) (ht : (rl_pre cl wi ++ t).length ≤ k) => rl_t_v (x := x) (cl := cl) (wi := wi) (k := k) tx hcl t ht
      have lop := rl_op_l (s := cl)
      have low := rl_op_l (s := wi)
      have epd : rl_pd cl wi = (if cl = -1 then 0 else 1) + (if wi = -1 then 0 else 1) := rfl
      rw [← lop, ← low] at epd
      have lC1 : (C ++ [x]).length = C.length + 1 := by rw [List.length_append]; rfl
      have lC2 : (C ++ [x] ++ rl_op cl).length = C.length + 1 + (rl_op cl).length := by rw [List.length_append, lC1]
      have lC3 : (C ++ [x] ++ rl_op cl ++ rl_op wi).length = C.length + 1 + (rl_op cl).length + (rl_op wi).length := by rw [List.length_append, lC2]
      have cdC : rl_cd ([x] ++ rl_op cl) := rl_cd_a cdd (rl_cd_op (by omega))
      have low1 : (rl_op wi).length ≤ 1 := by rw [low]; split <;> omega
      have lop1 : (rl_op cl).length ≤ 1 := by rw [lop]; split <;> omega
      -- the class, behind the value
      have CC : ∀ (M : sd_M) (fu i : Nat), i + m ≤ 400 → tx_cs M B n p → rl_c M R C k → ∃ N, f_X5_readsSum_8 R (fu + 1) cl wi (i : Int) M = f_X5_readsSum_38 (f_X5_readsSum_8 R fu) R wi (i : Int) N ∧ tx_cs N B n p1 ∧ rl_c N R (C ++ [x] ++ rl_op cl) (k + 1) ∧ rl_f R M N := by
        intro M fu i hi cs rc
        obtain ⟨N, e, csN, rcN, frN⟩ := VC M cs rc
        obtain ⟨N2, e2, rc2, cs2, fr2⟩ := rl_cop hR cl (f_X5_readsSum_38 (f_X5_readsSum_8 R fu) R wi (i : Int)) rcN csN (by omega)
        refine ⟨N2, ?_, cs2, rc2, rl_f_tr frN fr2⟩
        rw [← e2, f_X5_readsSum_8, if_neg (by omega), e, Option.bind_some]
        rfl
      have RR : ∀ (K : sd_M) (fu1 : Nat), tx_rs K B n p → rl_r K r C k → ∃ L, (f_X10_value K).bind (rl_RT cl fu1) = f_X10_term_9 fu1 L ∧ tx_rs L B n p1 ∧ rl_r L r (C ++ [x] ++ rl_op cl) (k + 1) ∧ rl_q r K L := by
        intro K fu1 rs rr
        obtain ⟨L, e, rsL, rrL, frL⟩ := VR K rs rr
        obtain ⟨L2, e2, rr2, rs2, fr2⟩ := rl_rop hr cl (f_X10_term_9 fu1) (z := ms_gi cl) (by omega) rfl rrL rsL (by omega)
        refine ⟨L2, ?_, rs2, rr2, rl_q_tr frL fr2⟩
        rw [← e2, e, Option.bind_some]
        rfl
      by_cases c1 : tx_kd B n p1 = 42 ∨ tx_kd B n p1 = 47 ∨ tx_kd B n p1 = 37
      · have sg : p1 < n ∧ tx_nx B n p1 = tx_s B n (p1 + 1) := by
          rcases c1 with c | c | c
          · have q := (tx_sg (B := B) (n := n) (p := p1) hbb (s := 42) (by omega) (by omega) (by omega) (by omega)).2 c
            exact ⟨q.1, q.2.2⟩
          · have q := (tx_sg (B := B) (n := n) (p := p1) hbb (s := 47) (by omega) (by omega) (by omega) (by omega)).2 c
            exact ⟨q.1, q.2.2⟩
          · have q := (tx_sg (B := B) (n := n) (p := p1) hbb (s := 37) (by omega) (by omega) (by omega) (by omega)).2 c
            exact ⟨q.1, q.2.2⟩
        have nb := rl_nx1 sg.1 sg.2
        have hs : rl_so (tx_kd B n p1) = 4 ∨ rl_so (tx_kd B n p1) = 5 ∨ rl_so (tx_kd B n p1) = 6 := by
          have q := rl_so_c (k := tx_kd B n p1)
          omega
        have K38 := fun (N : sd_M) (k8 : Int → Int → Int → sd_M → Option (Int × sd_M)) (i : Int) (cs : tx_cs N B n p1) => (rl_38 (R := R) k8 wi i cs).1 c1
        have K9 := fun (L : sd_M) (fu : Nat) (rs : tx_rs L B n p1) => (rl_term9 rs fu).1 c1
        generalize rl_so (tx_kd B n p1) = s at hs K38 K9
        have epd2 : rl_pd s wi = 1 + (rl_op wi).length := by
          unfold rl_pd
          rw [if_neg (by omega), low]
        obtain ⟨o, ok, oc, orf⟩ := ih (m - 1) (by omega) (k + 1) s wi (tx_nx B n p1) (C ++ [x] ++ rl_op cl) (by omega) (by omega) hwi (by omega) nb.2
        refine ⟨o, rl_p_w ok (fun _ h => h) (fun p2 k2 D h => ?_), fun M fu i hf hi cs rc => ?_, fun K fu1 fu2 h1 h2 rs rr => ?_⟩
        · obtain ⟨⟨E, eD, cdE, tE⟩, ⟨l1, l2, l3⟩, k3, k4⟩ := h
          refine ⟨⟨[x] ++ rl_op cl ++ E, by rw [eD]; simp [List.append_assoc], rl_cd_a cdC cdE, fun t ht => ?_⟩, ⟨by omega, by omega, l3⟩, by omega, k4⟩
          have e2 : rl_pre s wi ++ t = false :: (rl_pre (-1) wi ++ t) := by
            unfold rl_pre
            rw [if_neg (by omega), if_pos rfl]
            rfl
          have q := tE t (by
            rw [List.length_append, rl_pre_l] at ht ⊢
            omega)
          rw [rl_t_a, tv t ht, Option.bind_some, ← e2]
          exact q
        · obtain ⟨fu, rfl⟩ : ∃ g, fu = g + 1 := ⟨fu - 1, by omega⟩
          obtain ⟨N, e, csN, rcN, frN⟩ := CC M fu i hi cs rc
          obtain ⟨N2, e2, rc2, cs2, fr2⟩ := rl_119 hR (f_X5_readsSum_8 R fu) s wi i (by omega) rcN csN
          have q := oc N2 fu (i + 1) (by omega) (by omega) cs2 rc2
          rw [e, K38 N _ _ csN, e2]
          exact rl_Cl_tr (rl_f_tr frN fr2) q
        · obtain ⟨fu1, rfl⟩ : ∃ g, fu1 = g + 1 := ⟨fu1 - 1, by omega⟩
          obtain ⟨L, e, rsL, rrL, frL⟩ := RR K (fu1 + 1) rs rr
          obtain ⟨a1, a2, a3⟩ := rl_sgn rrL rsL sg.1 sg.2
          have q := orf _ fu1 fu2 (by omega) (by omega) a1 a2
          rw [e, K9 L fu1 rsL]
          exact rl_Rf_tr (rl_q_tr frL a3) q
      · have K38 := fun (N : sd_M) (k8 : Int → Int → Int → sd_M → Option (Int × sd_M)) (i : Int) (cs : tx_cs N B n p1) => (rl_38 (R := R) k8 wi i cs).2 c1
        have K9 := fun (L : sd_M) (fu : Nat) (rs : tx_rs L B n p1) => (rl_term9 rs fu).2 c1
        have gw : wi = ms_gi wi ∨ wi = -1 := by
          rcases hwi with h | h | h
          · exact Or.inr h
          · exact Or.inl (by rw [h]; decide)
          · exact Or.inl (by rw [h]; decide)
        -- behind the term, in both
        have C3 : ∀ (M : sd_M) (fu i : Nat), i + m ≤ 400 → tx_cs M B n p → rl_c M R C k → ∃ N, f_X5_readsSum_8 R (fu + 1) cl wi (i : Int) M = f_X5_readsSum_91 (f_X5_readsSum_8 R fu) R (-1) (i : Int) (rl_so (tx_kd B n p1)) N ∧ tx_cs N B n p1 ∧ rl_c N R (C ++ [x] ++ rl_op cl ++ rl_op wi) (k + 1) ∧ rl_f R M N := by
          intro M fu i hi cs rc
          obtain ⟨N, e, csN, rcN, frN⟩ := CC M fu i hi cs rc
          obtain ⟨N2, e2, rc2, cs2, fr2⟩ := rl_cop hR wi (f_X5_readsSum_91 (f_X5_readsSum_8 R fu) R (-1) (i : Int) (rl_so (tx_kd B n p1))) rcN csN (by omega)
          refine ⟨N2, ?_, cs2, rc2, rl_f_tr frN fr2⟩
          rw [e, K38 N _ _ csN]
          exact e2
        have R3 : ∀ (K : sd_M) (fu1 fu2 : Nat), tx_rs K B n p → rl_r K r C k → ∃ L, ((f_X10_value K).bind (rl_RT cl (fu1 + 1))).bind (rl_RS wi fu2) = f_X10_sum_9 fu2 L ∧ tx_rs L B n p1 ∧ rl_r L r (C ++ [x] ++ rl_op cl ++ rl_op wi) (k + 1) ∧ rl_q r K L := by
          intro K fu1 fu2 rs rr
          obtain ⟨L, e, rsL, rrL, frL⟩ := RR K (fu1 + 1) rs rr
          obtain ⟨a1, a2, a3⟩ := rl_see8 rrL rsL
          rcases gw with gw | gw
          · obtain ⟨L2, e2, rr2, rs2, fr2⟩ := rl_rop hr wi (f_X10_sum_9 fu2) (z := wi) (by omega) gw a2 a1 (by omega)
            refine ⟨L2, ?_, rs2, rr2, rl_q_tr frL (rl_q_tr a3 fr2)⟩
            rw [e, K9 L fu1 rsL, Option.bind_some, ← e2]
            rfl
          · refine ⟨sd_s L 331 8 (p1 : Int), ?_, a1, ?_, rl_q_tr frL a3⟩
            · rw [e, K9 L fu1 rsL, Option.bind_some]
              unfold rl_RS
              rw [if_neg (show ¬ (1 : Int) = 0 by decide), if_pos gw]
            · rw [show rl_op wi = [] by unfold rl_op; rw [if_pos gw], List.append_nil]
              exact a2
        by_cases c2 : tx_kd B n p1 = 43 ∨ tx_kd B n p1 = 45
        · have sg : p1 < n ∧ tx_nx B n p1 = tx_s B n (p1 + 1) := by
            rcases c2 with c | c
            · have q := (tx_sg (B := B) (n := n) (p := p1) hbb (s := 43) (by omega) (by omega) (by omega) (by omega)).2 c
              exact ⟨q.1, q.2.2⟩
            · have q := (tx_sg (B := B) (n := n) (p := p1) hbb (s := 45) (by omega) (by omega) (by omega) (by omega)).2 c
              exact ⟨q.1, q.2.2⟩
          have nb := rl_nx1 sg.1 sg.2
          have hs : rl_so (tx_kd B n p1) = 2 ∨ rl_so (tx_kd B n p1) = 3 := by
            have q := rl_so_c (k := tx_kd B n p1)
            omega
          have K10 := fun (L : sd_M) (fu : Nat) (rs : tx_rs L B n p1) => (rl_sum9 rs fu).1 c2
          generalize rl_so (tx_kd B n p1) = s at hs C3 K10
          have epd2 : rl_pd (-1) s = 1 := by
            unfold rl_pd
            rw [if_pos rfl, if_neg (by omega)]
          obtain ⟨o, ok, oc, orf⟩ := ih (m - 1) (by omega) (k + 1) (-1) s (tx_nx B n p1) (C ++ [x] ++ rl_op cl ++ rl_op wi) (by omega) (Or.inl rfl) (by omega) (by omega) nb.2
          refine ⟨o, rl_p_w ok (fun _ h => h) (fun p2 k2 D h => ?_), fun M fu i hf hi cs rc => ?_, fun K fu1 fu2 h1 h2 rs rr => ?_⟩
          · obtain ⟨⟨E, eD, cdE, tE⟩, ⟨l1, l2, l3⟩, k3, k4⟩ := h
            refine ⟨⟨[x] ++ rl_op cl ++ (rl_op wi ++ E), by rw [eD]; simp [List.append_assoc], rl_cd_a cdC (rl_cd_a (rl_cd_op (by omega)) cdE), fun t ht => ?_⟩, ⟨by omega, by omega, l3⟩, by omega, k4⟩
            have e2 : rl_pre (-1) s ++ t = false :: t := by
              unfold rl_pre
              rw [if_pos rfl, if_neg (by omega)]
              rfl
            have q := tE t (by
              rw [List.length_append, rl_pre_l] at ht ⊢
              omega)
            rw [rl_t_a, tv t ht, Option.bind_some, rl_t_a, rl_t_w hwi, Option.bind_some]
            rw [e2] at q
            exact q
          · obtain ⟨fu, rfl⟩ : ∃ g, fu = g + 1 := ⟨fu - 1, by omega⟩
            obtain ⟨N, e, csN, rcN, frN⟩ := C3 M fu i hi cs rc
            obtain ⟨N2, e2, rc2, cs2, fr2⟩ := rl_119 hR (f_X5_readsSum_8 R fu) (-1) s i (by omega) rcN csN
            have q := oc N2 fu (i + 1) (by omega) (by omega) cs2 rc2
            rw [e, (rl_91 _ _ s).1 hs, e2]
            exact rl_Cl_tr (rl_f_tr frN fr2) q
          · obtain ⟨fu1, rfl⟩ : ∃ g, fu1 = g + 1 := ⟨fu1 - 1, by omega⟩
            obtain ⟨fu2, rfl⟩ : ∃ g, fu2 = g + 1 := ⟨fu2 - 1, by omega⟩
            obtain ⟨L, e, rsL, rrL, frL⟩ := R3 K fu1 (fu2 + 1) rs rr
            obtain ⟨a1, a2, a3⟩ := rl_sgn rrL rsL sg.1 sg.2
            have q := orf _ 4000 fu2 (by omega) (by omega) a1 a2
            rw [e, K10 L fu2 rsL, rl_term_e]
            exact rl_Rf_tr (rl_q_tr frL a3) q
        · have hs : ¬ (rl_so (tx_kd B n p1) = 2 ∨ rl_so (tx_kd B n p1) = 3) := by
            have q := rl_so_c (k := tx_kd B n p1)
            omega
          refine ⟨.inr (p1, k + 1, C ++ [x] ++ rl_op cl ++ rl_op wi), ⟨⟨[x] ++ rl_op cl ++ rl_op wi, by simp [List.append_assoc], rl_cd_a cdC (rl_cd_op (by omega)), fun t ht => ?_⟩, ⟨by simp only []; omega, pp1, p1n⟩, by simp only []; omega, by simp only []; omega⟩, fun M fu i hf hi cs rc => ?_, fun K fu1 fu2 h1 h2 rs rr => ?_⟩
          · rw [rl_t_a, tv t ht, Option.bind_some]
            exact rl_t_w hwi t
          · obtain ⟨fu, rfl⟩ : ∃ g, fu = g + 1 := ⟨fu - 1, by omega⟩
            obtain ⟨N, e, csN, rcN, frN⟩ := C3 M fu i hi cs rc
            exact ⟨N, by rw [e, (rl_91 _ _ _).2 hs], csN, rcN, frN⟩
          · obtain ⟨fu1, rfl⟩ : ∃ g, fu1 = g + 1 := ⟨fu1 - 1, by omega⟩
            obtain ⟨fu2, rfl⟩ : ∃ g, fu2 = g + 1 := ⟨fu2 - 1, by omega⟩
            obtain ⟨L, e, rsL, rrL, frL⟩ := R3 K fu1 (fu2 + 1) rs rr
            obtain ⟨a1, a2, a3⟩ := rl_see8 rrL rsL
            exact ⟨sd_s L 331 8 (p1 : Int), by rw [e, (rl_sum9 rsL fu2).2 c2], a1, a2, rl_q_tr frL a3⟩
