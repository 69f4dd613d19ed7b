/-! the slip is taken -/
theorem sl_zero (kk : sd_M → Option (Int × sd_M)) : ∀ (m k fu : Nat) (M : sd_M), k + m = 58 → m < fu → ∃ N, f_X10_slip_8 kk fu (k : Int) M = kk N ∧ (∀ a, a ≠ 337 → N a = M a) ∧ ∀ i, N 337 i = if k ≤ i ∧ i < 58 then 0 else M 337 i := by
  intro m
  induction m with
  | zero =>
    intro k fu M hk hf
    obtain ⟨fu, rfl⟩ : ∃ g, fu = g + 1 := ⟨fu - 1, by omega⟩
    exact ⟨M, by rw [f_X10_slip_8, if_pos (by omega)], fun _ _ => rfl, fun i => by rw [if_neg (by omega)]⟩
  | succ m ih =>
    intro k fu M hk hf
    obtain ⟨fu, rfl⟩ : ∃ g, fu = g + 1 := ⟨fu - 1, by omega⟩
    obtain ⟨N, e, f, g⟩ := ih (k + 1) fu (sd_s M 337 k 0) (by omega) (by omega)
    refine ⟨N, ?_, fun a ha => by rw [f a ha, sd_s_a ha], fun i => ?_⟩
    · rw [f_X10_slip_8, if_neg (by omega), if_pos (by omega), sd_wid (by omega) (by omega), Int.toNat_natCast]
      exact e
    · rw [g i]
      by_cases c : i = k
      · rw [c, if_neg (by omega), sd_s_at, if_pos (by omega)]
      · rw [sd_s_j c]
        by_cases d : k ≤ i ∧ i < 58
        · rw [if_pos d, if_pos (by omega)]
        · rw [if_neg d, if_neg (by omega)]
theorem sl_copy (kk : sd_M → Option (Int × sd_M)) : ∀ (m k fu : Nat) (M : sd_M), k + m = 128 → m < fu → ∃ N, f_X10_slip_44 kk fu (k : Int) M = kk N ∧ (∀ a, a ≠ 341 → N a = M a) ∧ ∀ i, N 341 i = if k ≤ i ∧ i < 128 then (if i < 58 then M 337 i else 0) else M 341 i := by
  intro m
  induction m with
  | zero =>
    intro k fu M hk hf
    obtain ⟨fu, rfl⟩ : ∃ g, fu = g + 1 := ⟨fu - 1, by omega⟩
    exact ⟨M, by rw [f_X10_slip_44, if_pos (by omega)], fun _ _ => rfl, fun i => by rw [if_neg (by omega)]⟩
  | succ m ih =>
    intro k fu M hk hf
    obtain ⟨fu, rfl⟩ : ∃ g, fu = g + 1 := ⟨fu - 1, by omega⟩
    obtain ⟨N, e, f, g⟩ := ih (k + 1) fu (sd_s M 341 k (if k < 58 then M 337 k else 0)) (by omega) (by omega)
    refine ⟨N, ?_, fun a ha => by rw [f a ha, sd_s_a ha], fun i => ?_⟩
    · rw [f_X10_slip_44, if_neg (by omega)]
      by_cases c : k < 58
      · rw [if_neg (by omega), if_pos (by omega), Int.toNat_natCast]
        unfold f_X10_slip_72
        rw [if_pos (by omega), sd_wid (by omega) (by omega), Int.toNat_natCast]
        rw [if_pos c] at e
        exact e
      · rw [if_pos (by omega)]
        unfold f_X10_slip_72
        rw [if_pos (by omega), sd_wid (by omega) (by omega), Int.toNat_natCast]
        rw [if_neg c] at e
        exact e
    · rw [g i, sd_s_a (show (337 : Nat) ≠ 341 by omega)]
      by_cases c : i = k
      · rw [c, if_neg (by omega), sd_s_at, if_pos (show k ≤ k ∧ k < 128 by omega)]
      · rw [sd_s_j c]
        by_cases d : k ≤ i ∧ i < 128
        · rw [if_pos d, if_pos (by omega)]
        · rw [if_neg d, if_neg (by omega)]
/-- what stays when the reference reads a text -/
def sl_k (M N : sd_M) : Prop := (∀ a, a ≠ 331 → a ≠ 334 → a ≠ 337 → N a = M a) ∧ ∀ j, (j = 2 ∨ 17 ≤ j) → N 331 j = M 331 j
theorem sl_k_4 {M N K : sd_M} (h : sl_k M N) (g : sl_r4 N K) : sl_k M K := ⟨fun a x y z => (g.1 a x z).trans (h.1 a x y z), fun j hj => (g.2 j (by omega) (by omega) (by omega) (by omega) (by omega)).trans (h.2 j hj)⟩
theorem sl_ref {M : sd_M} {B : Nat → Int} {n : Nat} (hb : tx_rb M B n) : ∃ K, f_X10_slip M = (((f_X10_clauseHere K).bind fun r2 => f_X10_readsAll_35 f_X10_readsAll_66 4000 r2.1 r2.2).bind fun r1 => if r1.1 = 0 then (some (sd_w (((-2)) - (r1.2 331 9)), r1.2)) else (f_X10_slip_44 (f_X10_slip_79) 4000 0 r1.2)) ∧ sl_rs K B n 0 (fun i => if i < 58 then 0 else M 337 i) (tx_s B n 0) ∧ sl_k M K := by
  obtain ⟨N, e, f, g⟩ := sl_zero f_X10_slip_27 58 0 4000 (sd_s M 331 11 6) (by omega) (by omega)
  have f331 : N 331 = (sd_s M 331 11 6) 331 := f 331 (by omega)
  have n11 : N 331 11 = 6 := by rw [f331, sd_s_at]
  refine ⟨sd_s (sd_s (sd_s (sd_s (sd_s N 334 6 0) 331 14 0) 331 8 0) 331 9 0) 331 12 0, ?_, ⟨⟨tx_rb_c hb ?_ ?_, 0, ?_, Nat.zero_le _, rfl⟩, ?_, ?_, ?_, ?_⟩, fun a x y z => ?_, fun j hj => ?_⟩
  · unfold f_X10_slip
    refine Eq.trans e ?_
    unfold f_X10_slip_27 f_X10_readsAll
    rw [n11, if_pos (by omega)]
    rfl
  · rw [sd_s_j (by omega), sd_s_j (by omega), sd_s_j (by omega), sd_s_j (by omega), sd_s_a (by omega), f331, sd_s_j (by omega)]
  · rw [sd_s_a (by omega), sd_s_a (by omega), sd_s_a (by omega), sd_s_a (by omega), sd_s_a (by omega), f 332 (by omega), sd_s_a (by omega)]
  · rw [sd_s_j (by omega), sd_s_j (by omega), sd_s_at]
    rfl
  · rw [sd_s_j (by omega), sd_s_at]
  · rw [sd_s_j (by omega), sd_s_j (by omega), sd_s_j (by omega), sd_s_at]
    rfl
  · rw [sd_s_j (by omega), sd_s_j (by omega), sd_s_j (by omega), sd_s_j (by omega), sd_s_a (by omega), n11]
  · rw [sd_s_a (by omega), sd_s_a (by omega), sd_s_a (by omega), sd_s_a (by omega), sd_s_a (by omega)]
    funext i
    rw [g i, sd_s_a (by omega)]
    by_cases c : i < 58
    · rw [if_pos (by omega), if_pos c]
    · rw [if_neg (by omega), if_neg c]
  · rw [sd_s_a x, sd_s_a x, sd_s_a x, sd_s_a x, sd_s_a y, f a z, sd_s_a x]
  · rw [sd_s_j (by omega), sd_s_j (by omega), sd_s_j (by omega), sd_s_j (by omega), sd_s_a (by omega), f331, sd_s_j (by omega)]
theorem iv_t_0 {M : sd_M} (h1 : M 1 1 = 0) (h2 : M 331 1 = 0) : iv_t M := ⟨by rw [h1, h2], by omega, fun j hj => absurd hj (by omega)⟩
theorem ms_tl_s {S T : Nat → Int} (h : ms_tl S) (e : ∀ i, i < 58 → T i = S i) : ms_tl T := by
  obtain ⟨l0, l2, l3, lf, lk, l4, l5, l6⟩ := h
  unfold ms_tl
  rw [e 0 (by omega), e 1 (by omega), e 2 (by omega), e 3 (by omega)]
  refine ⟨l0, l2, l3, fun f hf => ?_, fun k hk => ?_, l4, l5, l6⟩
  · rw [e _ (by omega), e _ (by omega)]
    exact lf f hf
  · rw [e (22 + 3 * k) (by omega), e (23 + 3 * k) (by omega), e (24 + 3 * k) (by omega)]
    exact lk k hk
theorem cl_tg_x {M : sd_M} {t : Nat} {S T : Nat → Int} (tl : ms_tl S) (h : cl_tg M t S) (e : ∀ i, i < 58 → T i = S i) : cl_tg M t T := by
  have l2 := tl.2.1
  have l3 := tl.2.2.1
  obtain ⟨a, b, c⟩ := h
  unfold cl_tg
  rw [e 0 (by omega), e 1 (by omega), e 2 (by omega), e 3 (by omega)]
  refine ⟨a, fun f hf => ?_, fun k hk => ?_⟩
  · have en : ms_nf T (f : Int) (S 3).toNat = ms_nf S (f : Int) (S 3).toNat := ms_nf_c _ (fun k hk => e _ (by omega))
    rw [e (4 + f) (by omega), e (13 + f) (by omega), en]
    exact b f hf
  · rw [e (22 + 3 * k) (by omega), e (23 + 3 * k) (by omega), e (24 + 3 * k) (by omega)]
    exact c k hk
theorem sp_slip : sd_S0 sd_Iv f_X9_slip f_X10_slip := by
  intro M h
  obtain ⟨ht, hr, hu, hi, hk⟩ := h
  obtain ⟨n, hn⟩ : ∃ n : Nat, M 331 1 = n := ⟨(M 331 1).toNat, by have := ht.2.1; omega⟩
  have n4 : n ≤ 400 := by have := ht.2.1; omega
  have hbb : ∀ j, j < n → -128 ≤ M 332 j ∧ M 332 j < 128 := fun j hj => (ht.2.2 j (by omega)).2
  have by0 : tx_by (sd_s (sd_s (sd_s M 7 0 1) 7 2 0) 7 6 0) (M 332) n := by
    refine tx_by_c (M := M) ⟨by rw [ht.1, hn], n4, fun j hj => ht.2.2 j (by omega)⟩ ?_ ?_
    · rw [sd_s_a (by omega), sd_s_a (by omega), sd_s_a (by omega)]
    · rw [sd_s_a (by omega), sd_s_a (by omega), sd_s_a (by omega)]
  obtain ⟨N0, e0, cs0, z0, f0, g0⟩ := tx_cut by0
  have tg0 : sl_tg N0 (fun i => if i < 58 then 0 else M 337 i) := by
    have f7 := f0 7 (by omega) (by omega) (by omega) (by omega)
    refine ⟨⟨?_, fun w => absurd w (by simp), ?_, ?_⟩, fun f hf => absurd hf (by simp), fun k hk => absurd hk (by simp)⟩
    · rw [f7, sd_s_j (by omega), sd_s_j (by omega), sd_s_at]
    · rw [f7, sd_s_j (by omega), sd_s_at]
      rfl
    · rw [f7, sd_s_at]
      rfl
  have tl0 : ms_tl (fun i => if i < 58 then 0 else M 337 i) := ⟨Or.inl rfl, ⟨Int.le_refl _, by simp⟩, ⟨Int.le_refl _, by simp⟩, fun f hf => absurd hf (by simp), fun k hk => absurd hk (by simp), fun _ => rfl, ⟨Int.le_refl _, by simp⟩, fun w => absurd w (by simp)⟩
  obtain ⟨o, og, oc, orr⟩ := sl_loop hbb 41 0 (fun i => if i < 58 then 0 else M 337 i) (tx_s (M 332) n 0) (by omega) (by omega) tl0 ⟨fun _ => rfl, fun _ => rfl⟩
  have c := oc N0 4000 (by omega) cs0 tg0
  have er : f_X6_reads M = f_X6_reads_30 f_X6_reads_68 4000 0 N0 := by
    unfold f_X6_reads
    rw [e0, Option.bind_some]
  have f1 : ∀ a, a ≠ 1 → a ≠ 3 → a ≠ 4 → a ≠ 5 → ¬ (7 ≤ a ∧ a < 14) → N0 a = M a := fun a x y z w v => by rw [f0 a x y z w, sd_s_a (by omega), sd_s_a (by omega), sd_s_a (by omega)]
  cases o with
  | inl f =>
    obtain ⟨N, eN, n2, fr⟩ := c
    have f2 : ∀ a, a ≠ 1 → a ≠ 3 → a ≠ 4 → a ≠ 5 → ¬ (7 ≤ a ∧ a < 14) → sd_s N 1 1 0 a = M a := fun a x y z w v => by rw [sd_s_a x, fr.1 a x v, f1 a x y z w v]
    have m331 := f2 331 (by omega) (by omega) (by omega) (by omega) (by omega)
    have rb : tx_rb (sd_s N 1 1 0) (M 332) n := ⟨by rw [m331, hn], n4, fun j hj => ⟨by rw [f2 332 (by omega) (by omega) (by omega) (by omega) (by omega)], hbb j hj⟩⟩
    obtain ⟨K, eK, rsK, kK⟩ := sl_ref rb
    have m337 := f2 337 (by omega) (by omega) (by omega) (by omega) (by omega)
    rw [m337] at rsK
    obtain ⟨L, eL, l9, l1, frL⟩ := orr K 4000 (by omega) rsK
    have kL := sl_k_4 kK frL
    refine ⟨sd_w (-2 - f), sd_s N 1 1 0, L, ?_, ?_, ?_⟩
    · unfold f_X9_slip
      rw [er]
      refine Eq.trans (congrArg (fun o => Option.bind o _) eN) ?_
      rw [Option.bind_some]
      simp only [if_true]
      rw [sd_s_j (show (2 : Nat) ≠ 1 by omega), n2]
    · rw [eK, eL, Option.bind_some]
      simp only [if_true]
      rw [l9]
    · have g : ∀ a, a ≠ 1 → a ≠ 3 → a ≠ 4 → a ≠ 5 → ¬ (7 ≤ a ∧ a < 14) → a ≠ 331 → a ≠ 334 → a ≠ 337 → L a = M a := fun a x y z w v p q r => by rw [kL.1 a p q r, f2 a x y z w v]
      have gj : ∀ j, (j = 2 ∨ 17 ≤ j) → L 331 j = M 331 j := fun j hj => by rw [kL.2 j hj, m331]
      have g11 : L 1 1 = 0 := by rw [kL.1 1 (by omega) (by omega) (by omega), sd_s_at]
      have g0 := g 0 (by omega) (by omega) (by omega) (by omega) (by omega) (by omega) (by omega) (by omega)
      have g341 := g 341 (by omega) (by omega) (by omega) (by omega) (by omega) (by omega) (by omega) (by omega)
      refine ⟨iv_t_0 g11 l1, iv_r_c hr (by rw [g0]) (gj 2 (by omega)) (fun a x y _ => g a (by omega) (by omega) (by omega) (by omega) (by omega) (by omega) (by omega) (by omega)) (g 333 (by omega) (by omega) (by omega) (by omega) (by omega) (by omega) (by omega) (by omega)) (g 335 (by omega) (by omega) (by omega) (by omega) (by omega) (by omega) (by omega) (by omega)) (g 336 (by omega) (by omega) (by omega) (by omega) (by omega) (by omega) (by omega) (by omega)), iv_u_c hu (by rw [g0]) (by rw [g0]) (gj 27 (by omega)) (fun i _ => by rw [g341]) (g 345 (by omega) (by omega) (by omega) (by omega) (by omega) (by omega) (by omega) (by omega)) (fun a x y => g a (by omega) (by omega) (by omega) (by omega) (by omega) (by omega) (by omega) (by omega)), iv_i_c hi (g 154 (by omega) (by omega) (by omega) (by omega) (by omega) (by omega) (by omega) (by omega)) (g 353 (by omega) (by omega) (by omega) (by omega) (by omega) (by omega) (by omega) (by omega)) (g 354 (by omega) (by omega) (by omega) (by omega) (by omega) (by omega) (by omega) (by omega)) (g 355 (by omega) (by omega) (by omega) (by omega) (by omega) (by omega) (by omega) (by omega)) (g 356 (by omega) (by omega) (by omega) (by omega) (by omega) (by omega) (by omega) (by omega)) (by rw [gj 2 (by omega)]; exact Int.le_refl _) (fun a x y => g a (by omega) (by omega) (by omega) (by omega) (by omega) (by omega) (by omega) (by omega)), ?_⟩
      unfold iv_k
      rw [g341, gj 21 (by omega), gj 22 (by omega), gj 2 (by omega)]
      exact ⟨hk.1, cl_dk_c hk.1.1 hk.2.1 (fun a x y => g a (by omega) (by omega) (by omega) (by omega) (by omega) (by omega) (by omega) (by omega)), hk.2.2⟩
  | inr R =>
    obtain ⟨tlR, r0⟩ := og
    obtain ⟨N, eN, tgN, fr⟩ := c
    have tgM : cl_tg (sd_s N 1 1 0) 7 R := by
      refine cl_tg_c (M := N) ⟨⟨by rw [tgN.1.1, r0], tgN.1.2.1 r0, tgN.1.2.2.1, tgN.1.2.2.2⟩, tgN.2.1, tgN.2.2⟩ (fun a x y => sd_s_a (by omega))
    obtain ⟨N1, e1, a1, a2, a3, a4⟩ := cl_tcopy (M := sd_s N 1 1 0) (t := 59) (o := 7) (by omega) (Or.inr (by rw [tgM.1.1, r0]))
    obtain ⟨S0, hS0⟩ : ∃ S0 : Nat → Int, S0 = fun i => if i < 128 then (if i < 58 then R i else 0) else M 341 i := ⟨_, rfl⟩
    have s58 : ∀ i, i < 58 → S0 i = R i := fun i hi => by
      rw [hS0]
      exact Eq.trans (if_pos (by omega)) (if_pos hi)
    have s127 : S0 127 = 0 := by
      rw [hS0]
      rfl
    have tlS : ms_tl S0 := ms_tl_s tlR s58
    have tg1 : cl_tg N1 59 S0 := cl_tg_x tlR (cl_tg_q tlR tgM a1 a2 a3) s58
    obtain ⟨v2, N2, e2, bk2, fr2⟩ := cl_begin_k (M := N1) (b := 66) (S := S0) (by omega) tlS (cl_tg_w tg1)
    have l2 := tlS.2.1
    obtain ⟨M1, hM1⟩ : ∃ M1, M1 = sd_s (sd_s N2 74 0 0) 0 9 0 := ⟨_, rfl⟩
    have f2 : ∀ a, a ≠ 0 → a ≠ 1 → a ≠ 3 → a ≠ 4 → a ≠ 5 → ¬ (7 ≤ a ∧ a < 14) → ¬ (59 ≤ a ∧ a < 75) → M1 a = M a := fun a u x y z w v t => by
      rw [hM1, sd_s_a u, sd_s_a (by omega), fr2 a (by omega), a4 a (by omega), sd_s_a x, fr.1 a x v, f1 a x y z w v]
    have m331 := f2 331 (by omega) (by omega) (by omega) (by omega) (by omega) (by omega) (by omega)
    have m341 := f2 341 (by omega) (by omega) (by omega) (by omega) (by omega) (by omega) (by omega)
    have m337 := f2 337 (by omega) (by omega) (by omega) (by omega) (by omega) (by omega) (by omega)
    have rb : tx_rb M1 (M 332) n := ⟨by rw [m331, hn], n4, fun j hj => ⟨by rw [f2 332 (by omega) (by omega) (by omega) (by omega) (by omega) (by omega) (by omega)], hbb j hj⟩⟩
    obtain ⟨K, eK, rsK, kK⟩ := sl_ref rb
    rw [m337] at rsK
    obtain ⟨L, eL, lR, l1, frL⟩ := orr K 4000 (by omega) rsK
    have kL := sl_k_4 kK frL
    obtain ⟨N5, e5, f5, g5⟩ := sl_copy f_X10_slip_79 128 0 4000 L (by omega) (by omega)
    have s5 : N5 341 = S0 := by
      funext i
      rw [g5 i, lR, kL.1 341 (by omega) (by omega) (by omega), m341, hS0]
      by_cases ci : i < 128
      · rw [if_pos (by omega)]
        exact (if_pos ci).symm
      · rw [if_neg (by omega)]
        exact (if_neg ci).symm
    obtain ⟨v6, N6, e6, s6, f6⟩ := rf_begins (M := N5) (by rw [s5]; exact tlS)
    rw [s5] at s6
    refine ⟨R 2, M1, sd_s N6 331 27 0, ?_, ?_, ?_⟩
    · unfold f_X9_slip
      rw [er]
      refine Eq.trans (congrArg (fun o => Option.bind o _) eN) ?_
      rw [Option.bind_some]
      simp only []
      rw [if_neg (by decide), e1, Option.bind_some]
      simp only []
      rw [e2, Option.bind_some]
      simp only []
      rw [← hM1]
      have q : M1 59 2 = R 2 := by
        rw [hM1, sd_s_a (by omega), sd_s_a (by omega), fr2 59 (by omega), tg1.1.2.2.1, s58 2 (by omega)]
      rw [q]
    · rw [eK, eL, Option.bind_some]
      simp only []
      rw [if_neg (by decide)]
      refine Eq.trans e5 ?_
      unfold f_X10_slip_79
      rw [e6, Option.bind_some]
      simp only []
      rw [sd_s_a (show (341 : Nat) ≠ 331 by omega), s6, ms_bg_lo (by omega), s58 2 (by omega)]
    · have g : ∀ a, a ≠ 331 → a ≠ 334 → a ≠ 337 → a ≠ 341 → sd_s N6 331 27 0 a = M1 a := fun a p q r s => by rw [sd_s_a p, f6 a s, f5 a s, kL.1 a p q r]
      have h1 : ∀ a, a ≠ 0 → a ≠ 1 → a ≠ 3 → a ≠ 4 → a ≠ 5 → ¬ (7 ≤ a ∧ a < 14) → ¬ (59 ≤ a ∧ a < 75) → a ≠ 331 → a ≠ 334 → a ≠ 337 → a ≠ 341 → sd_s N6 331 27 0 a = M a := fun a u x y z w v t p q r s => by rw [g a p q r s, f2 a u x y z w v t]
      have gj : ∀ j, j ≠ 27 → (j = 2 ∨ 17 ≤ j) → sd_s N6 331 27 0 331 j = M 331 j := fun j h27 hj => by rw [sd_s_j h27, f6 331 (by omega), f5 331 (by omega), kL.2 j hj, m331]
      have z0 : ∀ j, j ≠ 9 → M1 0 j = M 0 j := fun j hj => by rw [hM1, sd_s_j hj, sd_s_a (by omega), fr2 0 (by omega), a4 0 (by omega), sd_s_a (by omega), fr.1 0 (by omega) (by omega), f1 0 (by omega) (by omega) (by omega) (by omega) (by omega)]
      have p0 := g 0 (by omega) (by omega) (by omega) (by omega)
      have p1 : sd_s N6 331 27 0 1 1 = 0 := by rw [g 1 (by omega) (by omega) (by omega) (by omega), hM1, sd_s_a (by omega), sd_s_a (by omega), fr2 1 (by omega), a4 1 (by omega), sd_s_at]
      have p2 : sd_s N6 331 27 0 331 1 = 0 := by rw [sd_s_j (by omega), f6 331 (by omega), f5 331 (by omega), l1]
      have p341 : sd_s N6 331 27 0 341 = ms_bg S0 := by rw [sd_s_a (by omega), s6]
      have hh : ∀ a, a = 333 ∨ a = 335 ∨ a = 336 ∨ a = 154 ∨ (353 ≤ a ∧ a < 357) ∨ (16 ≤ a ∧ a < 58) ∨ (78 ≤ a ∧ a < 154) ∨ a = 58 → sd_s N6 331 27 0 a = M a := fun a ha => h1 a (by omega) (by omega) (by omega) (by omega) (by omega) (by omega) (by omega) (by omega) (by omega) (by omega) (by omega)
      refine ⟨iv_t_0 p1 p2, iv_r_c hr (by rw [p0, z0 4 (by omega)]) (gj 2 (by omega) (by omega)) (fun a x y _ => hh a (by omega)) (hh 333 (by omega)) (hh 335 (by omega)) (hh 336 (by omega)), ?_, iv_i_c hi (hh 154 (by omega)) (hh 353 (by omega)) (hh 354 (by omega)) (hh 355 (by omega)) (hh 356 (by omega)) (by rw [gj 2 (by omega) (by omega)]; exact Int.le_refl _) (fun a x y => hh a (by omega)), ?_⟩
      · have u1 := hu.1
        have q27 : sd_s N6 331 27 0 331 27 = 0 := sd_s_at
        have q9 : sd_s N6 331 27 0 0 9 = 0 := by rw [p0, hM1, sd_s_at]
        refine ⟨⟨by rw [q27, q9], by omega, ?_⟩, fun i hi2 => absurd hi2 (by rw [q27]; omega)⟩
        rw [p0, z0 10 (by omega)]
        exact u1.2.2
      · unfold iv_k
        have zx := hk.2.1.2.2.2
        rw [p341, gj 21 (by omega) (by omega), gj 22 (by omega) (by omega), gj 2 (by omega) (by omega)]
        have h127 : ms_bg S0 127 = 0 := by rw [ms_bg_hi l2.2 (by omega), s127]
        refine ⟨⟨ms_bg_ok tlS, by rw [ms_bg_0 l2.2 (by omega) (by omega) (by omega)]; omega, by rw [h127]; omega, fun k hk2 => absurd hk2 (by rw [h127]; omega)⟩, ⟨?_, ?_, ?_, ?_, ?_⟩, hk.2.2⟩
        · refine cl_tg_x tlS (cl_tg_c tg1 (fun a x y => ?_)) (fun i hi2 => ms_bg_lo hi2)
          rw [g a (by omega) (by omega) (by omega) (by omega), hM1, sd_s_a (by omega), sd_s_a (by omega), fr2 a (by omega)]
        · refine cl_bk_c (ms_bg_ok tlS) bk2 (fun _ _ => rfl) (fun a x y => ?_)
          rw [g a (by omega) (by omega) (by omega) (by omega), hM1, sd_s_a (by omega), sd_s_a (by omega)]
        · refine ⟨?_, fun k hk2 => absurd hk2 (by rw [h127]; omega)⟩
          rw [h127, g 74 (by omega) (by omega) (by omega) (by omega), hM1, sd_s_a (by omega), sd_s_at]
        · rw [hh 58 (by omega)]
          exact zx.1
        · rw [hh 58 (by omega)]
          exact zx.2
