/-! acts: what is kept ahead of one -/
def iv_nx (n : Int) : Int := if n < 20 then n + 1 else 20
def iv_np (p : Int) : Int := if p < 19 then p + 1 else 0
/-- the row of what was, behind one more act -/
def iv_kr (S K : Nat → Int) (u : Int) (j : Nat) : Int := if u < 20 then (if 49 * u.toNat ≤ j ∧ j < 49 * u.toNat + 49 then S (58 + (j - 49 * u.toNat)) else K j) else if j < 931 then K (j + 49) else S (58 + (j - 931))
theorem ms_wa_s {S K : Nat → Int} {o : Nat} (h : ∀ k, k < 49 → K (o + k) = S (58 + k)) : ms_wa S K o = S := by
  funext i
  unfold ms_wa
  by_cases c : 58 ≤ i ∧ i < 107
  · rw [if_pos c, h (i - 58) (by omega), show 58 + (i - 58) = i by omega]
  · rw [if_neg c]
theorem ms_wa_k {S K L : Nat → Int} {o p : Nat} (h : ∀ k, k < 49 → K (o + k) = L (p + k)) : ms_wa S K o = ms_wa S L p := by
  funext i
  unfold ms_wa
  by_cases c : 58 ≤ i ∧ i < 107
  · rw [if_pos c, if_pos c, h (i - 58) (by omega)]
  · rw [if_neg c, if_neg c]
theorem ms_wa_o {S T K : Nat → Int} {o : Nat} (h : ms_ou S T) : ms_wa T K o = ms_wa S K o := by
  funext i
  unfold ms_wa
  by_cases c : 58 ≤ i ∧ i < 107
  · rw [if_pos c, if_pos c]
  · rw [if_neg c, if_neg c, h i (by omega)]
theorem iv_act {M N : sd_M} (h : sd_Iv M) {T : Nat → Int} (hT : ms_ok T ∧ 0 ≤ T 58 ∧ T 58 ≤ 999) (ou : ms_ou (M 341) T) (e41 : N 341 = T) (hb : cl_bk N 66 T) (c4 : N 0 4 = M 0 4) (c9 : N 0 9 = iv_nx (M 331 27)) (c10 : N 0 10 = iv_np (M 0 10)) (cp : cl_bk N (156 + 8 * (M 0 10).toNat) (M 341)) (cl : ∀ a, a < 66 → a ≠ 0 → (∀ r, r < 6 → a ≠ 22 + 7 * r) → N a = M a) (cm : ∀ a, 74 ≤ a → a < 316 → ¬ (156 + 8 * (M 0 10).toNat ≤ a ∧ a < 156 + 8 * (M 0 10).toNat + 8) → N a = M a) (r27 : N 331 27 = iv_nx (M 331 27)) (rj : ∀ j, (j = 1 ∨ j = 2 ∨ j = 21 ∨ j = 22) → N 331 j = M 331 j) (r45 : ∀ j, j < 980 → N 345 j = iv_kr (M 341) (M 345) (M 331 27) j) (rf : ∀ a, (a = 332 ∨ a = 333 ∨ a = 335 ∨ a = 336 ∨ (353 ≤ a ∧ a < 357)) → N a = M a) : sd_Iv N := by
  obtain ⟨ht, hr, hu, hi, hk⟩ := h
  have un := hu.1.2.1
  have pn := hu.1.2.2
  have ok := hk.1.1
  refine ⟨iv_t_c ht (by rw [cl 1 (by omega) (by omega) (fun r _ => by omega)]) (cl 2 (by omega) (by omega) (fun r _ => by omega)) (rj 1 (by omega)) (rf _ (by omega)), iv_r_c hr c4 (rj 2 (by omega)) (fun a x y z => cl a (by omega) (by omega) z) (rf _ (by omega)) (rf _ (by omega)) (rf _ (by omega)), ?_, iv_i_c hi (cm _ (by omega) (by omega) (by omega)) (rf _ (by omega)) (rf _ (by omega)) (rf _ (by omega)) (rf _ (by omega)) (by rw [rj 2 (by omega)]; omega) (fun a x y => cm a (by omega) (by omega) (by omega)), ?_⟩
  · unfold iv_u
    rw [c9, c10, r27, e41]
    refine ⟨⟨rfl, by unfold iv_nx; split <;> omega, by unfold iv_np; split <;> omega⟩, fun i hi2 => ?_⟩
    rw [ms_wa_o ou]
    by_cases c : M 331 27 < 20
    · have nx : iv_nx (M 331 27) = M 331 27 + 1 := if_pos c
      rw [nx] at hi2 ⊢
      by_cases d : (i : Int) = M 331 27
      · have e : ms_wa (M 341) (N 345) (49 * i) = M 341 := ms_wa_s (fun k hk => by
          rw [r45 _ (by omega)]
          unfold iv_kr
          rw [if_pos c, if_pos (by omega)]
          congr 1
          omega)
        rw [e]
        refine ⟨⟨ok, hk.1.2.1⟩, ?_⟩
        have ix : (((iv_np (M 0 10)).toNat + 20 - (M 331 27 + 1).toNat + i) % 20) = (M 0 10).toNat := by
          unfold iv_np
          split <;> omega
        rw [ix]
        exact cp
      · have e : ms_wa (M 341) (N 345) (49 * i) = ms_wa (M 341) (M 345) (49 * i) := ms_wa_k (fun k hk => by
          rw [r45 _ (by omega)]
          unfold iv_kr
          rw [if_pos c, if_neg (by omega)])
        obtain ⟨a, b⟩ := hu.2 i (by omega)
        rw [e]
        refine ⟨a, ?_⟩
        have ix : (((iv_np (M 0 10)).toNat + 20 - (M 331 27 + 1).toNat + i) % 20) = ((M 0 10).toNat + 20 - (M 331 27).toNat + i) % 20 := by
          unfold iv_np
          split <;> omega
        rw [ix]
        exact cl_bk_c a.1 b (fun _ _ => rfl) (fun x y z => cm x (by omega) (by omega) (by omega))
    · have nx : iv_nx (M 331 27) = 20 := if_neg c
      have u20 : M 331 27 = 20 := by omega
      rw [nx] at hi2 ⊢
      by_cases d : i = 19
      · have e : ms_wa (M 341) (N 345) (49 * i) = M 341 := ms_wa_s (fun k hk => by
          rw [r45 _ (by omega)]
          unfold iv_kr
          rw [if_neg c, if_neg (by omega)]
          rw [show 49 * i + k - 931 = k by omega])
        rw [e]
        refine ⟨⟨ok, hk.1.2.1⟩, ?_⟩
        have ix : (((iv_np (M 0 10)).toNat + 20 - (20 : Int).toNat + i) % 20) = (M 0 10).toNat := by
          unfold iv_np
          split <;> omega
        rw [ix]
        exact cp
      · have e : ms_wa (M 341) (N 345) (49 * i) = ms_wa (M 341) (M 345) (49 * (i + 1)) := ms_wa_k (fun k hk => by
          rw [r45 _ (by omega)]
          unfold iv_kr
          rw [if_neg c, if_pos (by omega)]
          congr 1
          omega)
        obtain ⟨a, b⟩ := hu.2 (i + 1) (by omega)
        rw [e]
        refine ⟨a, ?_⟩
        have ix : (((iv_np (M 0 10)).toNat + 20 - (20 : Int).toNat + i) % 20) = ((M 0 10).toNat + 20 - (M 331 27).toNat + (i + 1)) % 20 := by
          unfold iv_np
          split <;> omega
        rw [ix]
        exact cl_bk_c a.1 b (fun _ _ => rfl) (fun x y z => cm x (by omega) (by omega) (by omega))
  · unfold iv_k
    rw [e41, rj 21 (by omega), rj 22 (by omega), rj 2 (by omega)]
    obtain ⟨k1, ⟨k2, k3, k4, k5, k6⟩, k7⟩ := hk
    have no : ms_no T := by
      have := k1.2.2
      unfold ms_no at this ⊢
      rw [ou 127 (by omega)]
      refine ⟨this.1, fun k hk => ?_⟩
      rw [ou (107 + 2 * k) (by omega)]
      exact this.2 k hk
    have c58 : N 58 = M 58 := cl 58 (by omega) (by omega) (fun r _ => by omega)
    have tg := cl_tg_c (N := N) k2 (fun a x y => cl a (by omega) (by omega) (fun r _ => by omega))
    refine ⟨⟨hT.1, hT.2, no⟩, ⟨?_, hb, ?_, by rw [c58]; exact k5, by rw [c58]; exact k6⟩, k7⟩
    · have nf : ∀ f : Int, ms_nf T f (T 3).toNat = ms_nf (M 341) f (M 341 3).toNat := fun f => by
        have b := k1.1.1.2.2.1
        rw [ou 3 (by omega)]
        exact ms_nf_c _ (fun k hk => ou _ (by omega))
      have b2 := k1.1.1.2.1
      have b3 := k1.1.1.2.2.1
      obtain ⟨⟨t0, t1, t2, t3⟩, tf, tk⟩ := tg
      refine ⟨⟨by rw [ou 0 (by omega)]; exact t0, by rw [ou 1 (by omega)]; exact t1, by rw [ou 2 (by omega)]; exact t2, by rw [ou 3 (by omega)]; exact t3⟩, fun f hf => ?_, fun k hk => ?_⟩
      · rw [ou 2 (by omega)] at hf
        rw [ou (4 + f) (by omega), ou (13 + f) (by omega), nf]
        exact tf f hf
      · rw [ou 3 (by omega)] at hk
        rw [ou (22 + 3 * k) (by omega), ou (23 + 3 * k) (by omega), ou (24 + 3 * k) (by omega)]
        exact tk k hk
    · have nt := cl_nt_c (N := N) k4 (fun a x y => cm a (by omega) (by omega) (by omega))
      unfold cl_nt at nt ⊢
      rw [ou 127 (by omega)]
      refine ⟨nt.1, fun k hk => ?_⟩
      have := k1.2.2.1
      rw [ou (107 + 2 * k) (by omega), ou (108 + 2 * k) (by omega)]
      exact nt.2 k hk
/-- the class keeps its book -/
theorem cl_rem {M : sd_M} (h : sd_Iv M) : ∃ N, f_X9_remember M = some (0, N) ∧ cl_bk N (156 + 8 * (M 0 10).toNat) (M 341) ∧ cl_bk N 66 (M 341) ∧ N 0 4 = M 0 4 ∧ N 0 9 = iv_nx (M 331 27) ∧ N 0 10 = iv_np (M 0 10) ∧ (∀ a, a ≠ 0 → ¬ (156 + 8 * (M 0 10).toNat ≤ a ∧ a < 156 + 8 * (M 0 10).toNat + 8) → N a = M a) := by
  have ok := iv_ok h
  have u := h.2.2.1.1
  obtain ⟨K, e1, b1, f1⟩ := cl_copy_k (M := M) (b := 156 + 8 * (M 0 10).toNat) (o := 66) (by omega) ok (iv_bk h)
  have k0 : K 0 = M 0 := f1 0 (by omega)
  have main : ∀ p : Int, p = iv_np (M 0 10) → f_X9_remember_39 p K = some (0, sd_s (sd_s K 0 10 p) 0 9 (iv_nx (M 331 27))) := fun p hp => by
    unfold f_X9_remember_39
    rw [sd_s_j (show (9 : Nat) ≠ 10 by omega), k0, u.1, sd_wid (by omega) (by omega)]
    unfold iv_nx
    by_cases c : M 331 27 + 1 < 20
    · rw [if_pos c, if_pos (by omega)]
    · rw [if_neg c]
      by_cases d : M 331 27 < 20
      · rw [if_pos d, show M 331 27 + 1 = 20 by omega]
      · rw [if_neg d]
  have e2 : f_X9_remember M = some (0, sd_s (sd_s K 0 10 (iv_np (M 0 10))) 0 9 (iv_nx (M 331 27))) := by
    unfold f_X9_remember
    rw [if_pos (by omega), e1, Option.bind_some]
    simp only []
    rw [k0]
    by_cases c : 19 ≤ M 0 10
    · rw [if_pos c, main 0 (by unfold iv_np; rw [if_neg (by omega)])]
      unfold iv_np
      rw [if_neg (show ¬ M 0 10 < 19 by omega)]
    · rw [if_neg c, sd_wid (by omega) (by omega), main _ (by unfold iv_np; rw [if_pos (by omega)])]
      unfold iv_np
      rw [if_pos (show M 0 10 < 19 by omega)]
  have g : ∀ a, a ≠ 0 → sd_s (sd_s K 0 10 (iv_np (M 0 10))) 0 9 (iv_nx (M 331 27)) a = K a := fun a x => by rw [sd_s_a x, sd_s_a x]
  refine ⟨_, e2, cl_bk_c ok b1 (fun _ _ => rfl) (fun a x y => g a (by omega)), cl_bk_c ok (iv_bk h) (fun _ _ => rfl) (fun a x y => by rw [g a (by omega), f1 a (by omega)]), ?_, ?_, ?_, fun a x y => ?_⟩
  · rw [sd_s_j (by omega), sd_s_j (by omega), k0]
  · rw [sd_s_at]
  · rw [sd_s_j (by omega), sd_s_at]
  · rw [g a x, f1 a (by omega)]
/-- the reference keeps its state -/
theorem rf_ka_12 {M0 : sd_M} (kk : sd_M → Option (Int × sd_M)) : ∀ (m k fu : Nat) (M : sd_M), k + m = 980 → 49 ≤ k → m < fu → (∀ a, a ≠ 345 → M a = M0 a) → (∀ j, M 345 j = if j + 49 < k then M0 345 (j + 49) else M0 345 j) → ∃ N, (∀ a, a ≠ 345 → N a = M0 a) ∧ (∀ j, N 345 j = if j < 931 then M0 345 (j + 49) else M0 345 j) ∧ f_X10_keepsAct_12 kk fu (k : Int) M = kk N := by
  intro m
  induction m with
  | zero =>
    intro k fu M hk h49 hf h1 h2
    obtain ⟨fu, rfl⟩ : ∃ g, fu = g + 1 := ⟨fu - 1, by omega⟩
    refine ⟨M, h1, fun j => ?_, ?_⟩
    · rw [h2 j]
      by_cases c : j < 931
      · rw [if_pos c, if_pos (by omega)]
      · rw [if_neg c, if_neg (by omega)]
    · rw [f_X10_keepsAct_12, if_pos (by omega)]
  | succ m ih =>
    intro k fu M hk h49 hf h1 h2
    obtain ⟨fu, rfl⟩ : ∃ g, fu = g + 1 := ⟨fu - 1, by omega⟩
    obtain ⟨N, n1, n2, n3⟩ := ih (k + 1) fu (sd_s M 345 (k - 49) (M 345 k)) (by omega) (by omega) (by omega) (fun a x => by rw [sd_s_a x, h1 a x]) (fun j => by
      by_cases e : j = k - 49
      · subst e
        rw [sd_s_at, h2 k, if_neg (by omega), if_pos (by omega), show k - 49 + 49 = k by omega]
      · rw [sd_s_j e, h2 j]
        by_cases c : j + 49 < k
        · rw [if_pos c, if_pos (by omega)]
        · rw [if_neg c, if_neg (by omega)])
    refine ⟨N, n1, n2, ?_⟩
    push_cast at n3
    rw [f_X10_keepsAct_12, if_neg (by omega), if_pos (by omega), sd_wid (z := (k : Int) - 49) (by omega) (by omega), if_pos (by omega), sd_wid (z := (k : Int) + 1) (by omega) (by omega), show ((k : Int) - 49).toNat = k - 49 by omega, Int.toNat_natCast]
    exact n3
theorem rf_ka_52 {M0 : sd_M} {u : Nat} (hu : u < 20) (e27 : M0 331 27 = u) : ∀ (m k fu : Nat) (M : sd_M), k + m = 49 → m < fu → (∀ a, a ≠ 345 → M a = M0 a) → (∀ j, M 345 j = if 49 * u ≤ j ∧ j < 49 * u + k then M0 341 (58 + (j - 49 * u)) else M0 345 j) → ms_T (f_X10_keepsAct_52 f_X10_keepsAct_87 fu (k : Int) M) (fun _ N => N 331 27 = (u : Int) + 1 ∧ (∀ j, j ≠ 27 → N 331 j = M0 331 j) ∧ (∀ a, a ≠ 345 → a ≠ 331 → N a = M0 a) ∧ (∀ j, N 345 j = if 49 * u ≤ j ∧ j < 49 * u + 49 then M0 341 (58 + (j - 49 * u)) else M0 345 j)) := by
  intro m
  induction m with
  | zero =>
    intro k fu M hk hf h1 h2
    obtain ⟨fu, rfl⟩ : ∃ g, fu = g + 1 := ⟨fu - 1, by omega⟩
    rw [f_X10_keepsAct_52, if_pos (by omega), f_X10_keepsAct_87, h1 331 (by omega), e27, sd_wid (by omega) (by omega)]
    refine ms_t_r ⟨sd_s_at, fun j hj => by rw [sd_s_j hj, h1 331 (by omega)], fun a x y => by rw [sd_s_a y, h1 a x], fun j => ?_⟩
    rw [sd_s_a (by omega), h2 j, show k = 49 by omega]
  | succ m ih =>
    intro k fu M hk hf h1 h2
    obtain ⟨fu, rfl⟩ : ∃ g, fu = g + 1 := ⟨fu - 1, by omega⟩
    have up := ih (k + 1) fu (sd_s M 345 (49 * u + k) (M 341 (58 + k))) (by omega) (by omega) (fun a x => by rw [sd_s_a x, h1 a x]) (fun j => by
      by_cases e : j = 49 * u + k
      · subst e
        rw [sd_s_at, h1 341 (by omega), if_pos (by omega)]
        congr 1
        omega
      · rw [sd_s_j e, h2 j]
        by_cases c : 49 * u ≤ j ∧ j < 49 * u + k
        · rw [if_pos c, if_pos (by omega)]
        · rw [if_neg c, if_neg (by omega)])
    push_cast at up
    rw [f_X10_keepsAct_52, if_neg (by omega), h1 331 (by omega), e27, sd_wid (z := 58 + (k : Int)) (by omega) (by omega), if_pos (by omega), sd_wid (z := 49 * (u : Int)) (by omega) (by omega), sd_wid (z := 49 * (u : Int) + (k : Int)) (by omega) (by omega), if_pos (by omega), sd_wid (z := (k : Int) + 1) (by omega) (by omega), show (58 + (k : Int)).toNat = 58 + k by omega, show (49 * (u : Int) + (k : Int)).toNat = 49 * u + k by omega]
    exact up
theorem rf_ka {M : sd_M} (h : 0 ≤ M 331 27 ∧ M 331 27 ≤ 20) : ms_T (f_X10_keepsAct M) (fun _ N => N 331 27 = iv_nx (M 331 27) ∧ (∀ j, j ≠ 27 → N 331 j = M 331 j) ∧ (∀ a, a ≠ 345 → a ≠ 331 → N a = M a) ∧ ∀ j, j < 980 → N 345 j = iv_kr (M 341) (M 345) (M 331 27) j) := by
  unfold f_X10_keepsAct f_X10_keepsAct_40 f_X10_keepsAct_50
  by_cases c : M 331 27 = 20
  · rw [if_pos c]
    obtain ⟨K, k1, k2, k3⟩ := rf_ka_12 (M0 := M) (fun M => f_X10_keepsAct_52 f_X10_keepsAct_87 4000 0 (sd_s M 331 27 (sd_w ((M 331 27) - 1)))) 931 49 4000 M (by omega) (by omega) (by omega) (fun _ _ => rfl) (fun j => by
      by_cases d : j + 49 < 49
      · omega
      · rw [if_neg d])
    have k3' : f_X10_keepsAct_12 (fun M => f_X10_keepsAct_52 f_X10_keepsAct_87 4000 0 (sd_s M 331 27 (sd_w ((M 331 27) - 1)))) 4000 49 M = _ := k3
    have e27 : sd_w ((K 331 27) - 1) = 19 := by
      rw [k1 331 (by omega), c]
      exact sd_wid (by omega) (by omega)
    show ms_T (f_X10_keepsAct_12 (fun M => f_X10_keepsAct_52 f_X10_keepsAct_87 4000 0 (sd_s M 331 27 (sd_w ((M 331 27) - 1)))) 4000 49 M) _
    rw [k3', e27]
    refine ms_t_w (rf_ka_52 (M0 := sd_s K 331 27 19) (u := 19) (by omega) (by rw [sd_s_at]; rfl) 49 0 4000 _ (by omega) (by omega) (fun _ _ => rfl) (fun j => by rw [if_neg (by omega)])) (fun _ N hN => ?_)
    obtain ⟨n1, n2, n3, n4⟩ := hN
    refine ⟨?_, fun j hj => ?_, fun a x y => ?_, fun j hj => ?_⟩
    · rw [n1]
      unfold iv_nx
      rw [if_neg (by omega)]
      rfl
    · rw [n2 j hj, sd_s_j hj, k1 331 (by omega)]
    · rw [n3 a x y, sd_s_a y, k1 a x]
    · unfold iv_kr
      rw [n4 j, if_neg (show ¬ M 331 27 < 20 by omega), sd_s_a (show (341 : Nat) ≠ 331 by omega), sd_s_a (show (345 : Nat) ≠ 331 by omega), k1 341 (by omega), k2 j]
      by_cases d : j < 931
      · rw [if_pos d, if_pos d, if_neg (by omega)]
      · rw [if_neg d, if_neg d, if_pos (by omega)]
  · rw [if_neg c]
    obtain ⟨u, hu⟩ : ∃ u : Nat, M 331 27 = u := ⟨(M 331 27).toNat, by omega⟩
    refine ms_t_w (rf_ka_52 (M0 := M) (u := u) (by omega) hu 49 0 4000 M (by omega) (by omega) (fun _ _ => rfl) (fun j => by rw [if_neg (by omega)])) (fun _ N hN => ?_)
    obtain ⟨n1, n2, n3, n4⟩ := hN
    refine ⟨?_, n2, n3, fun j hj => ?_⟩
    · rw [n1]
      unfold iv_nx
      rw [if_pos (by omega), hu]
    · unfold iv_kr
      rw [n4 j, hu, if_pos (show (u : Int) < 20 by omega), Int.toNat_natCast]
