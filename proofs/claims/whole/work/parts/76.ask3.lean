/-! firm -/
def ms_gg (S : Nat → Int) (g : Int) (i : Nat) : Bool := ms_at (ms_ca S g) 1 i || g.toNat == i
def ms_fc (S : Nat → Int) : Nat → Nat → Bool
  | 0 => ms_at S 1
  | k + 1 => fun i => ms_fc S k i && ms_gg S (S (89 + k)) i
def ms_fr (S : Nat → Int) : Nat → Nat → Bool
  | 0 => ms_at S 1
  | f + 1 => fun i => ms_fr S f i && (!(ms_at S 1 f) || ms_gg S (f : Int) i)
theorem ms_fc_t {S : Nat → Int} {i : Nat} : ∀ k, (ms_fc S k i = true ↔ ms_at S 1 i = true ∧ ∀ j, j < k → ms_gg S (S (89 + j)) i = true)
  | 0 => by simp [ms_fc]
  | k + 1 => by
    have a := ms_fc_t (S := S) (i := i) k
    rw [ms_fc, Bool.and_eq_true, a]
    constructor
    · intro ⟨⟨x, y⟩, z⟩
      refine ⟨x, fun j hj => ?_⟩
      by_cases e : j = k
      · rw [e]
        exact z
      · exact y j (by omega)
    · intro ⟨x, y⟩
      exact ⟨⟨x, fun j hj => y j (by omega)⟩, y k (by omega)⟩
theorem ms_fr_t {S : Nat → Int} {i : Nat} : ∀ n, (ms_fr S n i = true ↔ ms_at S 1 i = true ∧ ∀ f, f < n → ms_at S 1 f = true → ms_gg S (f : Int) i = true)
  | 0 => by simp [ms_fr]
  | n + 1 => by
    have a := ms_fr_t (S := S) (i := i) n
    rw [ms_fr, Bool.and_eq_true, a]
    constructor
    · intro ⟨⟨x, y⟩, z⟩
      refine ⟨x, fun j hj w => ?_⟩
      by_cases e : j = n
      · subst e
        rw [w] at z
        simpa using z
      · exact y j (by omega) w
    · intro ⟨x, y⟩
      refine ⟨⟨x, fun j hj => y j (by omega)⟩, ?_⟩
      cases w : ms_at S 1 n
      · rfl
      · simpa using y n (by omega) w
theorem ms_fm_e {S : Nat → Int} (h : ms_ok S) (i : Nat) : ms_fr S (S 2).toNat i = ms_fc S (S 60).toNat i := by
  have l := ms_lines h
  rw [Bool.eq_iff_iff, ms_fc_t, ms_fr_t]
  constructor
  · intro ⟨x, y⟩
    refine ⟨x, fun j hj => ?_⟩
    have a := ms_ln h (k := j) (by omega)
    have b := y (S (89 + j)).toNat (by omega) (by
      have : ((S (89 + j)).toNat : Int) < S 2 := by omega
      exact ms_at_t this a.2)
    rw [Int.toNat_of_nonneg a.1.1] at b
    exact b
  · intro ⟨x, y⟩
    refine ⟨x, fun f hf w => ?_⟩
    have w2 : (f : Int) < S 2 ∧ S (71 + f) = 1 := by simpa [ms_at] using w
    obtain ⟨k, k1, k2⟩ := h.2.2.2.2.2.2.2 f w2.1 w2.2
    have := y k (by omega)
    rw [k2] at this
    exact this
theorem ms_gg_o {S : Nat → Int} {g : Int} (hg : 0 ≤ g ∧ g < 9) : sd_or (ms_on (ms_ca S g) 1) (sd_shl 1 g) = ms_bt (ms_gg S g) 9 := by
  have := ms_bt_o (p := ms_at (ms_ca S g) 1) (i := g.toNat) (by omega)
  rw [Int.toNat_of_nonneg hg.1] at this
  exact this
theorem cl_firm_l {M0 : sd_M} (h : sd_Iv M0) : ∀ (m k fu : Nat) (M : sd_M), (k : Int) + m = M0 341 60 → m < fu → cl_qf M0 M → ms_T (f_X9_firm_28 fu (ms_bt (ms_fc (M0 341) k) 9) (k : Int) M) (fun v N => v = ms_bt (ms_fc (M0 341) (M0 341 60).toNat) 9 ∧ cl_qf M0 N) := by
  have ok := iv_ok h
  have l := ms_lines ok
  intro m
  induction m with
  | zero =>
    intro k fu M hk hf q
    obtain ⟨fu, rfl⟩ : ∃ g, fu = g + 1 := ⟨fu - 1, by omega⟩
    have bk := iv_bk (cl_qf_iv h q)
    have e : M 341 = M0 341 := cl_qf_hi q (by omega)
    rw [e] at bk
    rw [f_X9_firm_28, bk.1.1.2.2.1, if_pos (by omega), show (M0 341 60).toNat = k by omega]
    exact ms_t_r ⟨rfl, q⟩
  | succ m ih =>
    intro k fu M hk hf q
    obtain ⟨fu, rfl⟩ : ∃ g, fu = g + 1 := ⟨fu - 1, by omega⟩
    have hM := cl_qf_iv h q
    have bk := iv_bk hM
    have tn := iv_tn hM
    have e : M 341 = M0 341 := cl_qf_hi q (by omega)
    rw [e] at bk tn
    have e6 : M 72 k = M0 341 (89 + k) := bk.1.2.2.2.1 k (by omega)
    have ln := ms_ln ok (k := k) (by omega)
    have cok := ms_ca_ok ok ln
    rw [f_X9_firm_28, bk.1.1.2.2.1, if_neg (by omega), if_pos (by omega), Int.toNat_natCast, e6]
    refine ms_t_b (cl_tryStriking ok bk tn ln) (fun _ N hN => ?_)
    simp only []
    have q2 := cl_qf_tr q (cl_qf_fr hN.2)
    rw [cl_lineBits cok hN.1.1, Option.bind_some]
    simp only []
    rw [ms_gg_o (by omega), ms_bt_and, sd_wid (by omega) (by omega)]
    have up := ih (k + 1) fu N (by omega) (by omega) q2
    push_cast at up
    exact up
theorem rf_isOf {M : sd_M} {p : Nat → Bool} {i : Nat} (hi : i < 9) : f_X10_isOf (ms_bt p 9) (i : Int) M = some (if p i = true then 1 else 0, M) := by
  unfold f_X10_isOf
  rw [ms_btt hi]
  by_cases c : p i = true
  · rw [if_pos c, if_pos rfl]
  · rw [if_neg c, if_neg (by omega)]
theorem rf_firm_l {S : Nat → Int} (h : ms_ok S) {M0 : sd_M} : ∀ (m k fu : Nat) (M : sd_M), (k : Int) + m = S 2 → m < fu → M 341 = S → rf_kp M S → rf_d M0 M → ms_T (f_X10_firm_23 fu (ms_bt (ms_at S 1) 9) (ms_bt (ms_fr S k) 9) (k : Int) M) (fun v N => v = ms_bt (ms_fr S (S 2).toNat) 9 ∧ N 341 = S ∧ rf_d M0 N) := by
  have l := ms_lines h
  intro m
  induction m with
  | zero =>
    intro k fu M hk hf e kp q
    obtain ⟨fu, rfl⟩ : ∃ g, fu = g + 1 := ⟨fu - 1, by omega⟩
    rw [f_X10_firm_23, e, if_pos (by omega), show (S 2).toNat = k by omega]
    exact ms_t_r ⟨rfl, e, q⟩
  | succ m ih =>
    intro k fu M hk hf e kp q
    obtain ⟨fu, rfl⟩ : ∃ g, fu = g + 1 := ⟨fu - 1, by omega⟩
    rw [f_X10_firm_23, e, if_neg (by omega), rf_isOf (by omega), Option.bind_some]
    simp only [f_X10_firm_66, sd_wid (z := (k : Int) + 1) (by omega) (by omega)]
    cases c : ms_at S 1 k
    · rw [ms_i0 (by simp), if_pos rfl]
      have up := ih (k + 1) fu M (by omega) (by omega) e kp q
      push_cast at up
      rw [ms_bt_c (p := ms_fr S (k + 1)) (q := ms_fr S k) 9 (fun i _ => by simp [ms_fr, c])] at up
      exact up
    · rw [ms_i1 rfl, if_neg (by omega)]
      have c2 : (k : Int) < S 2 ∧ S (71 + k) = 1 := by simpa [ms_at] using c
      have ln : (0 ≤ (k : Int) ∧ (k : Int) < S 2) ∧ S (71 + (k : Int).toNat) = 1 := by
        rw [Int.toNat_natCast]
        exact ⟨by omega, c2.2⟩
      have cok := ms_ca_ok h ln
      refine ms_t_b (rf_ca e h ln) (fun _ N hN => ?_)
      simp only []
      rw [rf_onesAt (by rw [hN.2.1]; exact cok), Option.bind_some, hN.2.1]
      simp only []
      refine ms_t_b (rf_laysBack (M := N) (S := S) (rf_kp_d kp hN.2.2) (by rw [hN.2.1]; exact ms_ou_ca h ln)) (fun _ K hK => ?_)
      simp only []
      have up := ih (k + 1) fu K (by omega) (by omega) hK.1 (rf_kp_d kp (rf_d_tr hN.2.2 (rf_d_41 hK.2))) (rf_d_tr q (rf_d_tr hN.2.2 (rf_d_41 hK.2)))
      push_cast at up
      rw [ms_gg_o (by omega), ms_bt_and]
      rw [ms_bt_c (p := ms_fr S (k + 1)) (q := fun i => ms_fr S k i && ms_gg S (k : Int) i) 9 (fun i _ => by simp [ms_fr, c])] at up
      exact up
theorem sp_firm : sd_S0 sd_Iv f_X9_firm f_X10_firm := iv_q0 (fun M h => by
  have ok := iv_ok h
  have l := ms_lines ok
  have sp := iv_sp h
  by_cases c : M 341 0 = 1
  · refine ⟨ms_bt (ms_fc (M 341) (M 341 60).toNat) 9, ?_, fun N hN q => ?_⟩
    · unfold f_X9_firm
      rw [if_neg (by omega), cl_lineBits ok (iv_bk h).1, Option.bind_some]
      exact cl_firm_l h (M 341 60).toNat 0 4000 M (by omega) (by omega) cl_qf_rf
    · have e : N 341 = M 341 := cl_qf_hi q (by omega)
      unfold f_X10_firm
      rw [rf_sl1 (by rw [e]; exact c), Option.bind_some]
      simp only []
      rw [if_neg (by omega), rf_onesAt (iv_ok hN), Option.bind_some, e]
      simp only []
      refine ms_t_b rf_keeps (fun _ K hK => ?_)
      rw [e] at hK
      simp only []
      have eK : K 341 = M 341 := by rw [hK.1 341 (by omega), e]
      rw [← ms_bt_c (p := ms_fr (M 341) (M 341 2).toNat) 9 (fun i _ => ms_fm_e ok i)]
      exact ms_t_w (rf_firm_l ok (M0 := K) (M 341 2).toNat 0 4000 K (by omega) (by omega) eK hK.2 rf_d_rf) (fun v L hL => ⟨hL.1, rf_q_tr (rf_q_kp hK.1) (rf_q_d hL.2.2 (hL.2.1.trans eK.symm))⟩)
  · refine ⟨-1, ?_, fun N hN q => ?_⟩
    · unfold f_X9_firm
      rw [if_pos (by omega)]
      exact ms_t_r ⟨rfl, cl_qf_rf⟩
    · unfold f_X10_firm
      rw [rf_sl0 (by rw [cl_qf_hi q (show 331 ≤ 341 by omega)]; exact c), Option.bind_some]
      exact ms_t_r ⟨rfl, rf_q_rf⟩)
