/-! values, in both -/
theorem tx_vl_b {B : Nat → Int} {n p : Nat} (hbb : ∀ j, j < n → -128 ≤ B j ∧ B j < 128) (k : tx_kd B n p = 513) : tx_vl B n p = -1 ∨ (0 ≤ tx_vl B n p ∧ tx_vl B n p ≤ 99999) := by
  have q := (tx_kd_d hbb).mpr k
  have l := (tx_len_d q.1 k hbb).2.2
  rw [l]
  by_cases c : tx_d B n p ≤ 5
  · rw [if_pos c]
    exact Or.inr (tx_nm5 c (fun t ht => tx_run_in (lo := 48) (hi := 57) (n - p) p t ht))
  · rw [if_neg c]
    exact Or.inl rfl
theorem rl_f0 {M : sd_M} {B : Nat → Int} {n p R : Nat} (hR : 16 ≤ R) (cs : tx_cs M B n p) {w : Nat} (hw : w < 8) : ∃ N, ((f_X7_fails (w : Int) M).bind fun r1 => if r1.1 = 0 ∨ r1.1 = 1 then some (r1.1, r1.2) else none) = some (0, N) ∧ N 1 2 = sl_f p w ∧ rl_f R M N := by
  refine ⟨sd_s M 1 2 ((1 + 8 * p + w : Nat) : Int), ?_, sd_s_at, fun a x _ _ _ _ => sd_s_a x, fun j x _ => sd_s_j x, by rw [sd_s_a (by omega)]⟩
  rw [tx_fails cs hw, Option.bind_some]
  rfl
theorem rl_vc {M : sd_M} {B : Nat → Int} {n p R k : Nat} {C : List (Int × Int)} (hR : 16 ≤ R) (cs : tx_cs M B n p) (rc : rl_c M R C k) (hk : k ≤ 60) (hC : C.length < 400) : rl_p (rl_v B n p k) (fun f => ∃ N, f_X5_readsValue R M = some (0, N) ∧ N 1 2 = f ∧ rl_f R M N) (fun p2 k2 D => ∃ N, f_X5_readsValue R M = some (1, N) ∧ tx_cs N B n p2 ∧ rl_c N R (C ++ D) k2 ∧ rl_f R M N) := by
  have k0 : ∃ N, f_X5_readsValue_38 R M = some (0, N) ∧ N 1 2 = sl_f p 0 ∧ rl_f R M N := rl_f0 hR cs (w := 0) (by omega)
  have k1 := rl_f0 hR cs (w := 1) (by omega)
  have k3 := rl_f0 hR cs (w := 3) (by omega)
  have r14 := rc.2.2
  have kk : ∀ s v : Int, k < 60 → ∃ N, f_X5_readsValue_116 R v s (sd_s M 14 0 ((k + 1 : Nat) : Int)) = some (1, N) ∧ tx_cs N B n (tx_nx B n p) ∧ rl_c N R (C ++ [(s, v)]) (k + 1) ∧ rl_f R M N := by
    intro s v h60
    have rc1 : rl_c (sd_s M 14 0 ((k + 1 : Nat) : Int)) R C (k + 1) := by
      refine ⟨by rw [sd_s_a (by omega)]; exact rc.1, fun i hi => ?_, sd_s_at⟩
      rw [sd_s_a (by omega), sd_s_a (by omega)]
      exact rc.2.1 i hi
    have cs1 : tx_cs (sd_s M 14 0 ((k + 1 : Nat) : Int)) B n p := rl_add_cs cs (fun a ha => sd_s_a (by omega))
    have fr1 : rl_f R M (sd_s M 14 0 ((k + 1 : Nat) : Int)) := ⟨fun a _ y _ _ _ => sd_s_a y, fun j _ _ => by rw [sd_s_a (by omega)], by rw [sd_s_a (by omega)]⟩
    obtain ⟨N, e, rcN, frN, loN⟩ := rl_add hR rc1 hC s v
    obtain ⟨N2, e2, cs2, a1, a2⟩ := tx_step (rl_add_cs cs1 loN)
    refine ⟨N2, ?_, cs2, rl_st_c hR ⟨a1, a2⟩ rcN, rl_f_tr fr1 (rl_f_tr frN (rl_st_f hR ⟨a1, a2⟩))⟩
    unfold f_X5_readsValue_116
    rw [e, Option.bind_some]
    simp only []
    rw [e2, Option.bind_some]
  unfold rl_v f_X5_readsValue
  rw [tx_kind cs, Option.bind_some]
  simp only []
  by_cases c1 : tx_kd B n p = 513
  · rw [if_pos c1, if_pos c1]
    unfold f_X5_readsValue_17
    rw [if_neg (show ¬ (1 : Int) = 0 by decide)]
    unfold f_X5_readsValue_44
    rw [if_neg (show ¬ (1 : Int) = 0 by decide), tx_value cs, Option.bind_some]
    simp only []
    by_cases c2 : tx_vl B n p = -1
    · rw [if_pos c2, if_pos c2]
      exact k1
    · rw [if_neg c2, if_neg c2]
      unfold f_X5_readsValue_63
      rw [r14]
      by_cases c3 : 60 ≤ k
      · rw [if_pos c3, if_neg (show ¬ (k : Int) < 60 by omega)]
        exact k3
      · rw [if_neg c3, if_pos (show (k : Int) < 60 by omega), if_neg (show ¬ (1 : Int) = 0 by decide), sd_wid (by omega) (by omega)]
        unfold f_X5_readsValue_99
        have cs1 : tx_cs (sd_s M 14 0 ((k : Int) + 1)) B n p := rl_add_cs cs (fun a ha => sd_s_a (by omega))
        rw [if_neg (show ¬ (1 : Int) = 0 by decide), tx_value cs1, Option.bind_some]
        exact kk 0 (tx_vl B n p) (by omega)
  · rw [if_neg c1, if_neg c1]
    unfold f_X5_readsValue_17
    rw [if_pos (show (0 : Int) = 0 from rfl)]
    by_cases c2 : 600 ≤ tx_kd B n p ∧ tx_kd B n p < 611
    · rw [if_pos c2, if_neg (show ¬ tx_kd B n p < 600 by omega), if_pos c2.2]
      unfold f_X5_readsValue_44
      rw [if_pos (show (0 : Int) = 0 from rfl)]
      unfold f_X5_readsValue_63
      rw [r14]
      by_cases c3 : 60 ≤ k
      · rw [if_pos c3, if_neg (show ¬ (k : Int) < 60 by omega)]
        exact k3
      · rw [if_neg c3, if_pos (show (k : Int) < 60 by omega), if_pos (show (0 : Int) = 0 from rfl), sd_wid (by omega) (by omega)]
        unfold f_X5_readsValue_99
        rw [if_pos (show (0 : Int) = 0 from rfl), sd_wid (by omega) (by omega)]
        exact kk 1 (tx_kd B n p - 600) (by omega)
    · rw [if_neg c2]
      by_cases c3 : tx_kd B n p < 600
      · rw [if_pos c3]
        exact k0
      · rw [if_neg c3, if_neg (show ¬ tx_kd B n p < 611 by omega)]
        exact k0
theorem rl_rf0 {K K1 : sd_M} {r p : Nat} (h : rl_q r K K1) (h9 : K1 331 9 = 0) (hp : p ≤ 400) {w : Nat} (hw : w < 8) {z : Int} (hz : z = (w : Int)) : ∃ L, ((f_X10_fails z (p : Int) K1).bind fun r1 => if r1.1 = 0 ∨ r1.1 = 1 then some (r1.1, r1.2) else none) = some (0, L) ∧ L 331 9 = sl_f p w ∧ rl_q r K L := by
  refine ⟨sd_s K1 331 9 (sl_f p w), ?_, sd_s_at, rl_q_tr h (rl_q_s (by omega))⟩
  rw [hz, tx_rfails h9 hp hw, Option.bind_some]
  rfl
theorem rl_vr {K : sd_M} {B : Nat → Int} {n p r k : Nat} {C : List (Int × Int)} (hr : r < 6) (rs : tx_rs K B n p) (rr : rl_r K r C k) (hk : k ≤ 60) (hC : C.length < 400) : rl_p (rl_v B n p k) (fun f => ∃ L, f_X10_value K = some (0, L) ∧ L 331 9 = f ∧ rl_q r K L) (fun p2 k2 D => ∃ L, f_X10_value K = some (1, L) ∧ tx_rs L B n p2 ∧ rl_r L r (C ++ D) k2 ∧ rl_q r K L) := by
  have b := tx_rs_b rs
  have hbb : ∀ j, j < n → -128 ≤ B j ∧ B j < 128 := fun j hj => (rs.1.2.2 j hj).2
  obtain ⟨⟨r11, r12, r9⟩, r4, r3⟩ := id rr
  obtain ⟨K1, hK1⟩ : ∃ K1, K1 = sd_s K 331 8 (p : Int) := ⟨_, rfl⟩
  have q8 : K1 331 8 = (p : Int) := by rw [hK1, sd_s_at]
  have rs1 : tx_rs K1 B n p := hK1 ▸ tx_rs_8 rs
  have rr1 : rl_r K1 r C k := by
    rw [hK1]
    exact rl_r_c rr (sd_s_j (by omega)) (by rw [sd_s_j (by omega), r12]) (by rw [sd_s_j (by omega), r9]) (sd_s_a (by omega)) (sd_s_a (by omega))
  have fr1 : rl_q r K K1 := hK1 ▸ rl_q_s (by omega)
  have mk : ∀ K2, K2 331 12 = (k : Int) → K2 331 9 = 0 → rl_q r K K2 → (60 ≤ k → ∃ L, f_X10_makes (p : Int) K2 = some (0, L) ∧ L 331 9 = sl_f p 3 ∧ rl_q r K L) ∧ (¬ 60 ≤ k → f_X10_makes (p : Int) K2 = some (1, sd_s K2 331 12 ((k + 1 : Nat) : Int))) := by
    intro K2 e12 e9 fr
    unfold f_X10_makes
    rw [e12]
    constructor
    · intro c
      rw [if_pos (show (k : Int) = 60 by omega)]
      exact rl_rf0 fr e9 (by omega) (w := 3) (by omega) rfl
    · intro c
      rw [if_neg (show ¬ (k : Int) = 60 by omega), sd_wid (by omega) (by omega)]
      rfl
  have kd := tx_kd_d (B := B) (n := n) (p := p) hbb
  unfold f_X10_value
  rw [tx_see rs, ← hK1, Option.bind_some]
  simp only []
  rw [q8, tx_isDigit rs1.1, Option.bind_some]
  simp only []
  unfold rl_v
  by_cases c1 : tx_kd B n p = 513
  · have d1 := kd.mpr c1
    rw [if_pos c1, if_neg (show ¬ (if p < n ∧ 48 ≤ B p ∧ B p ≤ 57 then (1 : Int) else 0) = 0 by rw [if_pos d1]; decide)]
    obtain ⟨z, N, e, fN, ok, no⟩ := tx_numberHere rs1 rr1.1.2.2 0 99999 (by omega)
    have frN := rl_q_tr fr1 (rl_q_rf (r := r) fN)
    rw [e, Option.bind_some]
    simp only []
    have vb := tx_vl_b hbb c1
    by_cases c2 : tx_vl B n p = -1
    · obtain ⟨z0, n9⟩ := no (fun w => by have := w.2; omega)
      rw [if_pos c2, if_pos z0]
      refine ⟨N, rfl, ?_, frN⟩
      rw [n9]
      unfold tx_nf
      rw [if_pos c1]
      rfl
    · have vb2 : 0 ≤ tx_vl B n p ∧ tx_vl B n p ≤ 99999 := by omega
      obtain ⟨z1, n9, n10, rsN⟩ := ok ⟨c1, vb2.1, vb2.2⟩
      rw [if_neg c2, if_neg (show ¬ z = 0 by omega)]
      have n12 : N 331 12 = (k : Int) := by rw [fN.2 12 (by omega) (by omega) (by omega), rr1.1.2.1]
      obtain ⟨m1, m2⟩ := mk N n12 n9 frN
      by_cases c3 : 60 ≤ k
      · obtain ⟨L, eL, l9, frL⟩ := m1 c3
        rw [if_pos c3, eL, Option.bind_some]
        exact ⟨L, rfl, l9, frL⟩
      · rw [if_neg c3, m2 c3, Option.bind_some]
        simp only []
        rw [if_neg (show ¬ (1 : Int) = 0 by decide)]
        have rr2 : rl_r (sd_s N 331 12 ((k + 1 : Nat) : Int)) r C (k + 1) := rl_r_c rr1 (by rw [sd_s_j (by omega), fN.2 11 (by omega) (by omega) (by omega)]) sd_s_at (by rw [sd_s_j (by omega), n9]) (by rw [sd_s_a (by omega), fN.1 333 (by omega)]) (by rw [sd_s_a (by omega), fN.1 334 (by omega)])
        obtain ⟨L, eL, rrL, frL, l331⟩ := rl_puts hr rr2 hC (s := 0) (v := tx_vl B n p) (g := 0) ⟨by decide, by decide⟩ (by decide) vb2
        rw [sd_s_j (show (10 : Nat) ≠ 12 by omega), n10, eL, Option.bind_some]
        refine ⟨L, rfl, ?_, rrL, rl_q_tr frN (rl_q_tr (rl_q_s (by omega)) frL)⟩
        exact tx_rs_c rsN (by rw [l331, sd_s_j (by omega)]) (by rw [l331, sd_s_j (by omega)]) (by rw [frL.1 332 (by omega) (by omega) (by omega), sd_s_a (by omega)])
  · have d1 : ¬ (p < n ∧ 48 ≤ B p ∧ B p ≤ 57) := fun w => c1 (kd.mp w)
    rw [if_neg c1, if_pos (show (if p < n ∧ 48 ≤ B p ∧ B p ≤ 57 then (1 : Int) else 0) = 0 by rw [if_neg d1]), tx_wordHere rs1, sd_s_id q8, Option.bind_some]
    simp only []
    by_cases c2 : 600 ≤ tx_kd B n p ∧ tx_kd B n p < 611
    · rw [if_pos c2, if_pos c2, if_pos (show (0 : Int) ≤ tx_kd B n p - 600 by omega)]
      obtain ⟨m1, m2⟩ := mk K1 rr1.1.2.1 rr1.1.2.2 fr1
      by_cases c3 : 60 ≤ k
      · obtain ⟨L, eL, l9, frL⟩ := m1 c3
        rw [if_pos c3, eL, Option.bind_some]
        exact ⟨L, rfl, l9, frL⟩
      · rw [if_neg c3, m2 c3, Option.bind_some]
        simp only []
        rw [if_neg (show ¬ (1 : Int) = 0 by decide)]
        have rs2 : tx_rs (sd_s K1 331 12 ((k + 1 : Nat) : Int)) B n p := tx_rs_c rs1 (sd_s_j (by omega)) (sd_s_j (by omega)) (sd_s_a (by omega))
        obtain ⟨N, eN, rsN, f1, f2⟩ := sl_pass rs2 (by rw [sd_s_j (by omega), q8]) c2.1
        have frN : rl_q r K N := rl_q_tr fr1 (rl_q_tr (rl_q_s (i := 12) (by omega)) ⟨fun a x _ _ => f1 a x, fun j x _ _ _ => f2 j x, fun i _ => by rw [f1 333 (by omega)]⟩)
        have rr2 : rl_r N r C (k + 1) := rl_r_c rr1 (by rw [f2 11 (by omega), sd_s_j (by omega)]) (by rw [f2 12 (by omega), sd_s_at]) (by rw [f2 9 (by omega), sd_s_j (by omega), rr1.1.2.2]) (by rw [f1 333 (by omega), sd_s_a (by omega)]) (by rw [f1 334 (by omega), sd_s_a (by omega)])
        obtain ⟨L, eL, rrL, frL, l331⟩ := rl_puts hr rr2 hC (s := 1) (v := tx_kd B n p - 600) (g := 1) (by omega) (by decide) (by omega)
        rw [eN, Option.bind_some]
        simp only []
        rw [eL, Option.bind_some]
        refine ⟨L, rfl, ?_, rrL, rl_q_tr frN frL⟩
        exact tx_rs_c rsN (by rw [l331]) (by rw [l331]) (frL.1 332 (by omega) (by omega) (by omega))
    · rw [if_neg c2, if_neg c2, if_neg (show ¬ (0 : Int) ≤ -1 by decide)]
      exact rl_rf0 fr1 rr1.1.2.2 (by omega) (w := 0) (by omega) rfl
