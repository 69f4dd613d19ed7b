/-! the first of some, and how many, upwards and downwards -/
def ms_fx (P : Nat → Bool) (v : Nat → Int) (d : Int) (a b : Nat) (x : Int) : Prop := (∃ i, a ≤ i ∧ i < b ∧ P i = true ∧ (∀ k, a ≤ k → k < i → P k = false) ∧ x = v i) ∨ ((∀ i, a ≤ i → i < b → P i = false) ∧ x = d)
theorem ms_tf {b : Bool} (h : b = true) (g : b = false) : False := by
  rw [h] at g
  exact absurd g (by simp)
theorem ms_fx_u {P : Nat → Bool} {v : Nat → Int} {d : Int} {a b : Nat} {x y : Int} (h : ms_fx P v d a b x) (g : ms_fx P v d a b y) : x = y := by
  rcases h with ⟨i, i1, i2, i3, i4, i5⟩ | ⟨h1, h2⟩
  · rcases g with ⟨j, j1, j2, j3, j4, j5⟩ | ⟨g1, g2⟩
    · have e : i = j := by
        by_cases c : i < j
        · exact (ms_tf i3 (j4 i i1 c)).elim
        · by_cases d : j < i
          · exact (ms_tf j3 (i4 j j1 d)).elim
          · omega
      rw [i5, j5, e]
    · exact (ms_tf i3 (g1 i i1 i2)).elim
  · rcases g with ⟨j, j1, j2, j3, j4, j5⟩ | ⟨g1, g2⟩
    · exact (ms_tf j3 (h1 j j1 j2)).elim
    · rw [h2, g2]
theorem ms_fx_0 {P : Nat → Bool} {v : Nat → Int} {d : Int} {a : Nat} : ms_fx P v d a a d := Or.inr ⟨fun i x y => by omega, rfl⟩
theorem ms_ct_p {P : Nat → Bool} {k : Nat} (h : P k = true) : ∀ n, k < n → 1 ≤ ms_ct P n
  | 0, h => absurd h (by omega)
  | n + 1, hn => by
    have a := ms_ct_b (p := P) n
    rw [ms_ct]
    by_cases e : k = n
    · subst e
      rw [if_pos h]
      omega
    · have := ms_ct_p h n (by omega)
      split <;> omega
theorem ms_fx_up {P : Nat → Bool} {v : Nat → Int} {d : Int} {n : Nat} {x : Int} (h : ms_fx P v d 0 n x) : ms_fx P v d 0 (n + 1) (if P n = true ∧ ms_ct P n = 0 then v n else x) := by
  by_cases c : P n = true ∧ ms_ct P n = 0
  · rw [if_pos c]
    refine Or.inl ⟨n, by omega, by omega, c.1, fun k _ hk => ?_, rfl⟩
    cases e : P k
    · rfl
    · have := ms_ct_p e n hk
      omega
  · rw [if_neg c]
    rcases h with ⟨i, i1, i2, i3, i4, i5⟩ | ⟨h1, h2⟩
    · exact Or.inl ⟨i, i1, by omega, i3, i4, i5⟩
    · refine Or.inr ⟨fun i x y => ?_, h2⟩
      by_cases e : i = n
      · subst e
        cases q : P i
        · rfl
        · exact absurd ⟨q, ms_ct_z i (fun j hj => h1 j (by omega) hj)⟩ c
      · exact h1 i x (by omega)
theorem ms_fx_dn {P : Nat → Bool} {v : Nat → Int} {d : Int} {n b : Nat} {x : Int} (hn : n < b) (h : ms_fx P v d (n + 1) b x) : ms_fx P v d n b (if P n = true then v n else x) := by
  by_cases c : P n = true
  · rw [if_pos c]
    exact Or.inl ⟨n, by omega, hn, c, fun k _ _ => by omega, rfl⟩
  · rw [if_neg c]
    have c2 : P n = false := by
      cases q : P n
      · rfl
      · exact absurd q c
    rcases h with ⟨i, i1, i2, i3, i4, i5⟩ | ⟨h1, h2⟩
    · refine Or.inl ⟨i, by omega, i2, i3, fun k x y => ?_, i5⟩
      by_cases e : k = n
      · rw [e]
        exact c2
      · exact i4 k (by omega) y
    · refine Or.inr ⟨fun i x y => ?_, h2⟩
      by_cases e : i = n
      · rw [e]
        exact c2
      · exact h1 i (by omega) y
/-! rests of two that write more -/
def ms_tm (S : Nat → Int) (f i : Nat) : Int := if S (62 + f) * ((i : Int) + 1) < 999 then S (62 + f) * ((i : Int) + 1) else 999
def ms_rw (S : Nat → Int) (p o i j : Nat) : Nat → Int := ms_u (ms_u S (62 + p) (ms_tm S p i)) (62 + o) (ms_tm S o j)
def ms_gn (S : Nat → Int) (p o : Nat) (x : Nat) : Int := if x % 2 = 0 then 3 * ms_sg (ms_st (ms_rw S p o (x / 2 / 3) (x / 2 % 3))) (p : Int) - ms_tm S p (x / 2 / 3) else 3 * ms_sg (ms_st (ms_rw S p o (x / 2 / 3) (x / 2 % 3))) (o : Int) - ms_tm S o (x / 2 % 3)
theorem ms_tm_b {S : Nat → Int} (h : ms_ok S) {f i : Nat} (hf : (f : Int) < S 2) (hi : i < 3) : (1 ≤ ms_tm S f i ∧ ms_tm S f i ≤ 999) ∧ (0 ≤ S (62 + f) * ((i : Int) + 1) ∧ S (62 + f) * ((i : Int) + 1) ≤ 2997) := by
  have w := (h.2.2.2.1 f hf).1
  unfold ms_tm
  match i, hi with
  | 0, _ => split <;> omega
  | 1, _ => split <;> omega
  | 2, _ => split <;> omega
theorem ms_rw_ok {S : Nat → Int} (h : ms_ok S) {p o i j : Nat} (hp : (p : Int) < S 2) (ho : (o : Int) < S 2) (hi : i < 3) (hj : j < 3) : ms_ok (ms_rw S p o i j) := by
  have l := ms_lines h
  exact ms_ok_62 (ms_ok_62 h (ms_tm_b h hp hi).1 (by omega)) (ms_tm_b h ho hj).1 (by omega)
theorem ms_rw_ou {S : Nat → Int} (h : ms_ok S) {p o i j : Nat} (hp : (p : Int) < S 2) (ho : (o : Int) < S 2) : ms_ou S (ms_rw S p o i j) := by
  have l := ms_lines h
  exact ms_ou_tr (ms_ou_u (by omega)) (ms_ou_u (by omega))
theorem ms_gn_0 {S : Nat → Int} {p o i j : Nat} (hj : j < 3) : ms_gn S p o (2 * (3 * i + j)) = 3 * ms_sg (ms_st (ms_rw S p o i j)) (p : Int) - ms_tm S p i := by
  unfold ms_gn
  rw [if_pos (by omega), show 2 * (3 * i + j) / 2 / 3 = i by omega, show 2 * (3 * i + j) / 2 % 3 = j by omega]
theorem ms_gn_1 {S : Nat → Int} {p o i j : Nat} (hj : j < 3) : ms_gn S p o (2 * (3 * i + j) + 1) = 3 * ms_sg (ms_st (ms_rw S p o i j)) (o : Int) - ms_tm S o j := by
  unfold ms_gn
  rw [if_neg (by omega), show (2 * (3 * i + j) + 1) / 2 / 3 = i by omega, show (2 * (3 * i + j) + 1) / 2 % 3 = j by omega]
theorem cl_gains_10 {M0 : sd_M} (h : sd_Iv M0) {p o i : Nat} (hp : (p : Int) < M0 341 2) (ho : (o : Int) < M0 341 2) (po : p ≠ o) (hi : i < 3) (kk : Int → Int → Int → sd_M → Option (Int × sd_M)) : ∀ (m j fu : Nat) (M : sd_M), j + m = 3 → m < fu → cl_qf M0 M → (∀ x, x < 2 * (3 * i + j) → M 330 x = ms_gn (M0 341) p o x) → ∃ N, cl_qf M0 N ∧ (∀ x, x < 2 * (3 * i + 3) → N 330 x = ms_gn (M0 341) p o x) ∧ f_X9_layGains_10 kk fu (p : Int) (o : Int) (i : Int) (j : Int) M = kk (p : Int) (o : Int) (i : Int) N := by
  have ok := iv_ok h
  have l := ms_lines ok
  intro m
  induction m with
  | zero =>
    intro j fu M hj hf q g
    obtain ⟨fu, rfl⟩ : ∃ g, fu = g + 1 := ⟨fu - 1, by omega⟩
    refine ⟨M, q, fun x hx => g x (by omega), ?_⟩
    rw [f_X9_layGains_10, if_pos (by omega)]
  | succ m ih =>
    intro j fu M hj hf q g
    obtain ⟨fu, rfl⟩ : ∃ g, fu = g + 1 := ⟨fu - 1, by omega⟩
    have hM := cl_qf_iv h q
    have bk := iv_bk hM
    have tn := iv_tn hM
    have e : M 341 = M0 341 := cl_qf_hi q (by omega)
    rw [e] at bk tn
    have t1 := ms_tm_b ok hp (i := i) hi
    have t2 := ms_tm_b ok ho (i := j) (by omega)
    have ok1 := ms_ok_62 ok t1.1 (f := p) (by omega)
    have ok2 := ms_rw_ok ok hp ho hi (j := j) (by omega)
    have ok3 := ms_st_ok ok2
    obtain ⟨N1, e1, b1, f1⟩ := cl_copy_k (M := M) (b := 318) (o := 66) (by omega) ok bk
    obtain ⟨_, N2, e2, b2, f2⟩ := cl_rewrite (M := N1) (b := 318) ok b1 t1.1 (f := (p : Int)) (by omega)
    rw [Int.toNat_natCast] at b2
    have x2 : ms_u (M0 341) (62 + p) (ms_tm (M0 341) p i) 2 = M0 341 2 := ms_u_ne (by omega)
    obtain ⟨_, N3, e3, b3, f3⟩ := cl_rewrite (M := N2) (b := 318) ok1 b2 t2.1 (f := (o : Int)) (by rw [x2]; omega)
    rw [Int.toNat_natCast] at b3
    have b3' : cl_bk N3 318 (ms_rw (M0 341) p o i j) := b3
    have fr3 : ∀ a, (a < 318 ∨ 326 ≤ a) → N3 a = M a := fun a x => by rw [f3 a (by omega), f2 a (by omega), f1 a (by omega)]
    have tn3 : cl_tn N3 (ms_rw (M0 341) p o i j) := cl_tn_c tn ok.1.2.2.1.2 (fun a x y => fr3 a (by omega)) (fun x y => ms_rw_ou ok hp ho x (by omega))
    obtain ⟨_, N4, e4, _, b4, f4⟩ := cl_settle (b := 318) (by omega) ok2 b3' tn3
    have u2 : ms_st (ms_rw (M0 341) p o i j) 2 = M0 341 2 := by rw [ms_ou_st ok2 2 (by omega), ms_rw_ou ok hp ho 2 (by omega)]
    have sp : N4 322 p = ms_sg (ms_st (ms_rw (M0 341) p o i j)) (p : Int) := b4.2.2 p (by omega)
    have so : N4 322 o = ms_sg (ms_st (ms_rw (M0 341) p o i j)) (o : Int) := b4.2.2 o (by omega)
    have wp : N4 319 p = ms_tm (M0 341) p i := by
      have : N4 319 p = _ := (b4.1.2.1 p (by rw [u2]; exact hp)).1
      rw [this]
      unfold ms_st
      rw [ms_se_62 9 ok2 p (by omega)]
      unfold ms_rw
      rw [ms_u_ne (by omega), ms_u_at]
    have wo : N4 319 o = ms_tm (M0 341) o j := by
      have : N4 319 o = _ := (b4.1.2.1 o (by rw [u2]; exact ho)).1
      rw [this]
      unfold ms_st
      rw [ms_se_62 9 ok2 o (by omega)]
      unfold ms_rw
      rw [ms_u_at]
    have bp := ms_sg_b ok3 (p : Int)
    have bo := ms_sg_b ok3 (o : Int)
    have m1 : N1 67 p = M0 341 (62 + p) := by rw [f1 67 (by omega)]; exact (bk.1.2.1 p hp).1
    have m2 : N2 67 o = M0 341 (62 + o) := by rw [f2 67 (by omega), f1 67 (by omega)]; exact (bk.1.2.1 o ho).1
    have q4 : cl_qf M0 N4 := cl_qf_tr q (cl_qf_tr (cl_qf_tr (cl_qf_tr (cl_qf_fr f1) (cl_qf_fr f2)) (cl_qf_fr f3)) (cl_qf_fr f4))
    obtain ⟨K, k1, k2, k3⟩ := ih (j + 1) fu (sd_s (sd_s N4 330 (2 * (3 * i + j)) (ms_gn (M0 341) p o (2 * (3 * i + j)))) 330 (2 * (3 * i + j) + 1) (ms_gn (M0 341) p o (2 * (3 * i + j) + 1))) (by omega) (by omega) (cl_qf_tr q4 (cl_qf_tr (cl_qf_s (by omega)) (cl_qf_s (by omega)))) (fun x hx => by
      by_cases c1 : x = 2 * (3 * i + j) + 1
      · rw [c1, sd_s_at]
      · rw [sd_s_j c1]
        by_cases c2 : x = 2 * (3 * i + j)
        · rw [c2, sd_s_at]
        · rw [sd_s_j c2, f4 330 (by omega), fr3 330 (by omega)]
          exact g x (by omega))
    refine ⟨K, k1, k2, ?_⟩
    push_cast at k3
    have n1 : (2 * (3 * (i : Int) + (j : Int))).toNat = 2 * (3 * i + j) := by omega
    have n2 : (2 * (3 * (i : Int) + (j : Int)) + 1).toNat = 2 * (3 * i + j) + 1 := by omega
    have p9 : 0 ≤ (p : Int) ∧ (p : Int) < 9 := by omega
    have o9 : 0 ≤ (o : Int) ∧ (o : Int) < 9 := by omega
    have r1 : 0 ≤ 2 * (3 * (i : Int) + (j : Int)) ∧ 2 * (3 * (i : Int) + (j : Int)) < 18 := by omega
    have r2 : 0 ≤ 2 * (3 * (i : Int) + (j : Int)) + 1 ∧ 2 * (3 * (i : Int) + (j : Int)) + 1 < 18 := by omega
    have j3 : ¬ 3 ≤ (j : Int) := by omega
    have i3 : (i : Int) * 3 = 3 * (i : Int) := by omega
    obtain ⟨w1, w2, w3, w4, w5, w6, w7, w8, w9, w10⟩ : sd_w ((i : Int) + 1) = (i : Int) + 1 ∧ sd_w ((j : Int) + 1) = (j : Int) + 1 ∧ sd_w ((i : Int) * 3) = 3 * (i : Int) ∧ sd_w (3 * (i : Int) + (j : Int)) = 3 * (i : Int) + j ∧ sd_w (2 * (3 * (i : Int) + (j : Int))) = 2 * (3 * (i : Int) + j) ∧ sd_w (2 * (3 * (i : Int) + (j : Int)) + 1) = 2 * (3 * (i : Int) + j) + 1 ∧ sd_w (M0 341 (62 + p) * ((i : Int) + 1)) = M0 341 (62 + p) * ((i : Int) + 1) ∧ sd_w (M0 341 (62 + o) * ((j : Int) + 1)) = M0 341 (62 + o) * ((j : Int) + 1) ∧ sd_w (sd_w (3 * ms_sg (ms_st (ms_rw (M0 341) p o i j)) (p : Int)) - ms_tm (M0 341) p i) = ms_gn (M0 341) p o (2 * (3 * i + j)) ∧ sd_w (sd_w (3 * ms_sg (ms_st (ms_rw (M0 341) p o i j)) (o : Int)) - ms_tm (M0 341) o j) = ms_gn (M0 341) p o (2 * (3 * i + j) + 1) := ⟨sd_wid (by omega) (by omega), sd_wid (by omega) (by omega), by rw [i3]; exact sd_wid (by omega) (by omega), sd_wid (by omega) (by omega), sd_wid (by omega) (by omega), sd_wid (by omega) (by omega), sd_wid (by omega) (by omega), sd_wid (by omega) (by omega), by rw [sd_wid (z := 3 * ms_sg (ms_st (ms_rw (M0 341) p o i j)) (p : Int)) (by omega) (by omega), sd_wid (by omega) (by omega), ms_gn_0 (by omega)], by rw [sd_wid (z := 3 * ms_sg (ms_st (ms_rw (M0 341) p o i j)) (o : Int)) (by omega) (by omega), sd_wid (by omega) (by omega), ms_gn_1 (by omega)]⟩
    have e2' : f_X0_rewrite 318 (p : Int) (if M0 341 (62 + p) * ((i : Int) + 1) < 999 then M0 341 (62 + p) * ((i : Int) + 1) else 999) N1 = _ := e2
    have e3' : f_X0_rewrite 318 (o : Int) (if M0 341 (62 + o) * ((j : Int) + 1) < 999 then M0 341 (62 + o) * ((j : Int) + 1) else 999) N2 = _ := e3
    rw [f_X9_layGains_10, if_neg j3, e1, Option.bind_some]
    simp only [Int.toNat_natCast, w1, w2, w3, w4, w5, w6, n1, n2]
    rw [if_pos p9, m1, w7, e2', Option.bind_some]
    simp only []
    rw [if_pos o9, m2, w8, e3', Option.bind_some]
    simp only []
    rw [e4, Option.bind_some]
    simp only []
    rw [if_pos p9, if_pos p9, if_pos r1, if_pos o9, if_pos o9, if_pos r2, sd_s_a (show (322 : Nat) ≠ 330 by omega), sd_s_a (show (319 : Nat) ≠ 330 by omega), sp, wp, so, wo, w9, w10]
    exact k3
theorem cl_gains {M0 : sd_M} (h : sd_Iv M0) {p o : Nat} (hp : (p : Int) < M0 341 2) (ho : (o : Int) < M0 341 2) (po : p ≠ o) : ∀ (m i fu : Nat) (M : sd_M), i + m = 3 → m < fu → cl_qf M0 M → (∀ x, x < 2 * (3 * i) → M 330 x = ms_gn (M0 341) p o x) → ms_T (f_X9_layGains_2 fu (p : Int) (o : Int) (i : Int) M) (fun _ N => cl_qf M0 N ∧ ∀ x, x < 18 → N 330 x = ms_gn (M0 341) p o x) := by
  intro m
  induction m with
  | zero =>
    intro i fu M hi hf q g
    obtain ⟨fu, rfl⟩ : ∃ g, fu = g + 1 := ⟨fu - 1, by omega⟩
    rw [f_X9_layGains_2, if_pos (by omega)]
    exact ms_t_r ⟨q, fun x hx => g x (by omega)⟩
  | succ m ih =>
    intro i fu M hi hf q g
    obtain ⟨fu, rfl⟩ : ∃ g, fu = g + 1 := ⟨fu - 1, by omega⟩
    obtain ⟨N, n1, n2, n3⟩ := cl_gains_10 h hp ho po (i := i) (by omega) (f_X9_layGains_182 (f_X9_layGains_2 fu)) 3 0 4000 M (by omega) (by omega) q (fun x hx => g x (by omega))
    have n3' : f_X9_layGains_10 (f_X9_layGains_182 (f_X9_layGains_2 fu)) 4000 (p : Int) (o : Int) (i : Int) 0 M = _ := n3
    rw [f_X9_layGains_2, if_neg (by omega), n3', f_X9_layGains_182, sd_wid (by omega) (by omega)]
    have up := ih (i + 1) fu N (by omega) (by omega) n1 (fun x hx => n2 x (by omega))
    push_cast at up
    exact up
