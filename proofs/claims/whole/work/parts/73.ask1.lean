/-! what is there: line, out, offer, need, count -/
theorem sp_line : sd_S1 sd_Iv f_X9_line f_X10_line := iv_q1 (fun M h p hp => by
  have l := ms_lines (iv_ok h)
  have b := iv_bk h
  refine ⟨if 0 ≤ p ∧ p < M 341 60 then M 341 (89 + p.toNat) else -1, ?_, fun N hN q => ?_⟩
  · unfold f_X9_line
    rw [b.1.1.2.2.1]
    by_cases c : 0 ≤ p ∧ p < M 341 60
    · obtain ⟨k, rfl⟩ : ∃ k : Nat, p = k := ⟨p.toNat, by omega⟩
      rw [if_neg (by omega), if_neg (by omega), if_pos (by omega), if_pos c, Int.toNat_natCast]
      exact ms_t_r ⟨b.1.2.2.2.1 k c.2, cl_qf_rf⟩
    · rw [if_neg c]
      by_cases d : p < 0
      · rw [if_pos d]
        exact ms_t_r ⟨rfl, cl_qf_rf⟩
      · rw [if_neg d, if_pos (by omega)]
        exact ms_t_r ⟨rfl, cl_qf_rf⟩
  · unfold f_X10_line
    rw [cl_qf_hi q (show 331 ≤ 341 by omega)]
    by_cases c : 0 ≤ p ∧ p < M 341 60
    · rw [if_neg (by omega), if_neg (by omega), sd_wid (by omega) (by omega), if_pos (by omega), if_pos c, sd_tn89 (by omega)]
      exact ms_t_r ⟨rfl, rf_q_rf⟩
    · rw [if_neg c]
      by_cases d : p < 0
      · rw [if_pos d]
        exact ms_t_r ⟨rfl, rf_q_rf⟩
      · rw [if_neg d, if_pos (by omega)]
        exact ms_t_r ⟨rfl, rf_q_rf⟩)
theorem sp_out : sd_S1 sd_Iv f_X9_out f_X10_out := iv_q1 (fun M h p hp => by
  have l := ms_lines (iv_ok h)
  have b := iv_bk h
  refine ⟨if 0 ≤ p ∧ p < M 341 61 then M 341 (98 + p.toNat) else -1, ?_, fun N hN q => ?_⟩
  · unfold f_X9_out
    rw [b.1.1.2.2.2]
    by_cases c : 0 ≤ p ∧ p < M 341 61
    · obtain ⟨k, rfl⟩ : ∃ k : Nat, p = k := ⟨p.toNat, by omega⟩
      rw [if_neg (by omega), if_neg (by omega), if_pos (by omega), if_pos c, Int.toNat_natCast]
      exact ms_t_r ⟨b.1.2.2.2.2 k c.2, cl_qf_rf⟩
    · rw [if_neg c]
      by_cases d : p < 0
      · rw [if_pos d]
        exact ms_t_r ⟨rfl, cl_qf_rf⟩
      · rw [if_neg d, if_pos (by omega)]
        exact ms_t_r ⟨rfl, cl_qf_rf⟩
  · unfold f_X10_out
    rw [cl_qf_hi q (show 331 ≤ 341 by omega)]
    by_cases c : 0 ≤ p ∧ p < M 341 61
    · rw [if_neg (by omega), if_neg (by omega), sd_wid (by omega) (by omega), if_pos (by omega), if_pos c, sd_tn98 (by omega)]
      exact ms_t_r ⟨rfl, rf_q_rf⟩
    · rw [if_neg c]
      by_cases d : p < 0
      · rw [if_pos d]
        exact ms_t_r ⟨rfl, rf_q_rf⟩
      · rw [if_neg d, if_pos (by omega)]
        exact ms_t_r ⟨rfl, rf_q_rf⟩)
theorem sp_count : sd_S1 sd_Iv f_X9_count f_X10_count := iv_q1 (fun M h p hp => by
  have l := ms_lines (iv_ok h)
  have ok := iv_ok h
  have b := iv_bk h
  have t := iv_tg h
  have zx := iv_zx h
  have k : ∀ (n r : Int), p = n → f_X9_count n M = some (r, M) → (∀ N, sd_Iv N → cl_qf M N → ms_T (f_X10_count n N) (fun v K => v = r ∧ rf_q N K)) → ∃ r, ms_T (f_X9_count p M) (fun v N => v = r ∧ cl_qf M N) ∧ ∀ N, sd_Iv N → cl_qf M N → ms_T (f_X10_count p N) (fun v K => v = r ∧ rf_q N K) := fun n r e a c => by
    subst e
    exact ⟨r, ms_t_e a ⟨rfl, cl_qf_rf⟩, c⟩
  by_cases c0 : p = 0
  · refine k 0 _ c0 (show f_X9_count 0 M = some (M 341 59, M) by rw [← b.1.1.1]; rfl) (fun N hN q => ?_)
    exact ms_t_e (show f_X10_count 0 N = some (N 341 59, N) from rfl) ⟨by rw [cl_qf_hi q (show 331 ≤ 341 by omega)], rf_q_rf⟩
  by_cases c1 : p = 1
  · refine k 1 _ c1 (show f_X9_count 1 M = some (M 341 2, M) by rw [← t.1.2.2.1]; rfl) (fun N hN q => ?_)
    exact ms_t_e (show f_X10_count 1 N = some (N 341 2, N) from rfl) ⟨by rw [cl_qf_hi q (show 331 ≤ 341 by omega)], rf_q_rf⟩
  by_cases c2 : p = 2
  · refine k 2 _ c2 (show f_X9_count 2 M = some (M 331 2, M) by rw [← h.2.1.1.1]; rfl) (fun N hN q => ?_)
    exact ms_t_e (show f_X10_count 2 N = some (N 331 2, N) from rfl) ⟨by rw [cl_qf_hi q (show 331 ≤ 331 by omega)], rf_q_rf⟩
  by_cases c3 : p = 3
  · refine k 3 _ c3 (show f_X9_count 3 M = some (M 331 21, M) by rw [← zx.1]; rfl) (fun N hN q => ?_)
    exact ms_t_e (show f_X10_count 3 N = some (N 331 21, N) from rfl) ⟨by rw [cl_qf_hi q (show 331 ≤ 331 by omega)], rf_q_rf⟩
  by_cases c4 : p = 4
  · refine k 4 _ c4 (show f_X9_count 4 M = some (M 341 58, M) by rw [← b.1.1.2.1]; rfl) (fun N hN q => ?_)
    exact ms_t_e (show f_X10_count 4 N = some (N 341 58, N) from rfl) ⟨by rw [cl_qf_hi q (show 331 ≤ 341 by omega)], rf_q_rf⟩
  by_cases c5 : p = 5
  · refine k 5 _ c5 (show f_X9_count 5 M = some (ms_on (M 341) 0, M) by rw [show f_X9_count 5 M = (f_X0_bitsWhere 66 0 (M 59 2) M).bind fun r => some (r.1, r.2) from rfl, show M 59 2 = M 341 2 from t.1.2.2.1, cl_bits ok b.1]; rfl) (fun N hN q => ?_)
    rw [show f_X10_count 5 N = (f_X10_onesAt 0 N).bind fun r => some (r.1, r.2) from rfl, rf_onesAt (iv_ok hN), cl_qf_hi q (show 331 ≤ 341 by omega)]
    exact ms_t_r ⟨rfl, rf_q_rf⟩
  by_cases c6 : p = 6
  · refine k 6 _ c6 (show f_X9_count 6 M = some (ms_on (M 341) 1, M) by rw [show f_X9_count 6 M = (f_X0_lineBits 66 M).bind fun r => some (r.1, r.2) from rfl, cl_lineBits ok b.1]; rfl) (fun N hN q => ?_)
    rw [show f_X10_count 6 N = (f_X10_onesAt 1 N).bind fun r => some (r.1, r.2) from rfl, rf_onesAt (iv_ok hN), cl_qf_hi q (show 331 ≤ 341 by omega)]
    exact ms_t_r ⟨rfl, rf_q_rf⟩
  by_cases c7 : p = 7
  · refine k 7 _ c7 (show f_X9_count 7 M = some (ms_pl (M 341), M) by rw [← b.2.1]; rfl) (fun N hN q => ?_)
    rw [show f_X10_count 7 N = (f_X10_placed N).bind fun r => some (r.1, r.2) from rfl, rf_placed (iv_ok hN), cl_qf_hi q (show 331 ≤ 341 by omega)]
    exact ms_t_r ⟨rfl, rf_q_rf⟩
  by_cases c8 : p = 8
  · refine k 8 _ c8 (show f_X9_count 8 M = some (ms_sh (M 341), M) by rw [show f_X9_count 8 M = (f_X0_lacking 66 M).bind fun r => some (r.1, r.2) from rfl, cl_lack ok b.1.1.1 b.2.1]; rfl) (fun N hN q => ?_)
    rw [show f_X10_count 8 N = (f_X10_shortNow N).bind fun r => some (r.1, r.2) from rfl, rf_shortNow (iv_ok hN), cl_qf_hi q (show 331 ≤ 341 by omega)]
    exact ms_t_r ⟨rfl, rf_q_rf⟩
  by_cases c9 : p = 9
  · refine k 9 _ c9 (show f_X9_count 9 M = some (ms_sa (M 341), M) by rw [show f_X9_count 9 M = (f_X0_lineBits 66 M).bind fun r => (f_X0_signedOf 66 r.1 r.2).bind fun r => some (r.1, r.2) from rfl, cl_lineBits ok b.1, Option.bind_some]; simp only []; rw [ms_on, cl_signedOf ok b.2.2]; rfl) (fun N hN q => ?_)
    rw [show f_X10_count 9 N = (f_X10_signedAll N).bind fun r => some (r.1, r.2) from rfl]
    refine ms_t_b (rf_signedAll (iv_ok hN)) (fun v K hK => ms_t_r ⟨?_, rf_q_f hK.2.1⟩)
    rw [cl_qf_hi q (show 331 ≤ 341 by omega)] at hK
    exact hK.1
  by_cases c10 : p = 10
  · refine k 10 _ c10 (show f_X9_count 10 M = some (M 341 61, M) by rw [← b.1.1.2.2.2]; rfl) (fun N hN q => ?_)
    exact ms_t_e (show f_X10_count 10 N = some (N 341 61, N) from rfl) ⟨by rw [cl_qf_hi q (show 331 ≤ 341 by omega)], rf_q_rf⟩
  by_cases c11 : p = 11
  · refine k 11 _ c11 (show f_X9_count 11 M = some (M 341 127, M) by rw [← (iv_nt h).1]; rfl) (fun N hN q => ?_)
    exact ms_t_e (show f_X10_count 11 N = some (N 341 127, N) from rfl) ⟨by rw [cl_qf_hi q (show 331 ≤ 341 by omega)], rf_q_rf⟩
  by_cases c12 : p = 12
  · refine k 12 _ c12 (show f_X9_count 12 M = some (M 331 27, M) by rw [← h.2.2.1.1.1]; rfl) (fun N hN q => ?_)
    exact ms_t_e (show f_X10_count 12 N = some (N 331 27, N) from rfl) ⟨by rw [cl_qf_hi q (show 331 ≤ 331 by omega)], rf_q_rf⟩
  by_cases c13 : p = 13
  · refine k 13 _ c13 (show f_X9_count 13 M = some (M 331 22, M) by rw [← zx.2]; rfl) (fun N hN q => ?_)
    exact ms_t_e (show f_X10_count 13 N = some (N 331 22, N) from rfl) ⟨by rw [cl_qf_hi q (show 331 ≤ 331 by omega)], rf_q_rf⟩
  by_cases c14 : p = 14
  · refine k 14 _ c14 (show f_X9_count 14 M = some (M 331 1, M) by rw [← h.1.1]; rfl) (fun N hN q => ?_)
    exact ms_t_e (show f_X10_count 14 N = some (N 331 1, N) from rfl) ⟨by rw [cl_qf_hi q (show 331 ≤ 331 by omega)], rf_q_rf⟩
  refine ⟨-1, ms_t_e (r := -1) (N := M) ?_ ⟨rfl, cl_qf_rf⟩, fun N _ _ => ms_t_e (r := -1) (N := N) ?_ ⟨rfl, rf_q_rf⟩⟩
  · unfold f_X9_count
    rw [if_neg c0, if_neg c1, if_neg c2, if_neg c3, if_neg c4, if_neg c5, if_neg c6, if_neg c7, if_neg c8, if_neg c9, if_neg c10, if_neg c11, if_neg c12, if_neg c13, if_neg c14]
  · unfold f_X10_count
    rw [if_neg c0, if_neg c1, if_neg c2, if_neg c3, if_neg c4, if_neg c5, if_neg c6, if_neg c7, if_neg c8, if_neg c9, if_neg c10, if_neg c11, if_neg c12, if_neg c13, if_neg c14])
theorem sp_offer : sd_S2 sd_Iv f_X9_offer f_X10_offer := iv_q2 (fun M h p w hp hw => by
  have l := ms_lines (iv_ok h)
  have ok := iv_ok h
  have b := iv_bk h
  have t := iv_tg h
  by_cases c : 0 ≤ p ∧ p < M 341 2
  · obtain ⟨f, rfl⟩ : ∃ f : Nat, p = f := ⟨p.toNat, by omega⟩
    have bf := b.1.2.1 f c.2
    have f9 : (0 ≤ (f : Int) ∧ (f : Int) < 9) = True := eq_true (by omega)
    have e1 : f_X9_isOffer (f : Int) M = some (1, M) := by rw [iv_isOffer h, if_pos c]
    have k : ∀ (r : Int), f_X9_offer (f : Int) w M = some (r, M) → (∀ N, sd_Iv N → cl_qf M N → f_X10_isOffer (f : Int) N = some (1, N) → N 341 = M 341 → ms_T (f_X10_offer (f : Int) w N) (fun v K => v = r ∧ rf_q N K)) → ∃ r, ms_T (f_X9_offer (f : Int) w M) (fun v N => v = r ∧ cl_qf M N) ∧ ∀ N, sd_Iv N → cl_qf M N → ms_T (f_X10_offer (f : Int) w N) (fun v K => v = r ∧ rf_q N K) := fun r a d => ⟨r, ms_t_e a ⟨rfl, cl_qf_rf⟩, fun N hN q => d N hN q (by rw [rf_isOffer, cl_qf_hi q (show 331 ≤ 341 by omega), if_pos c]) (cl_qf_hi q (by omega))⟩
    have x1 : f_X9_offer (f : Int) w M = if w = 0 then some (M 67 f, M) else if w = 1 then some (M 68 f, M) else if w = 2 then some (M 62 f, M) else if w = 3 then some (M 69 f, M) else if w = 4 then some (M 70 f, M) else if w = 5 then some (M 71 f, M) else some (-1, M) := by
      unfold f_X9_offer
      rw [e1, Option.bind_some]
      simp only [f9, if_true, Int.toNat_natCast]
      rw [if_neg (by omega)]
    have x2 : ∀ N, f_X10_isOffer (f : Int) N = some (1, N) → f_X10_offer (f : Int) w N = if w = 0 then some (N 341 (62 + f), N) else if w = 1 then some (N 341 (13 + f), N) else if w = 2 then ((f_X10_needsOf (f : Int) N).bind fun r => some (r.1, r.2)) else if w = 3 then some (N 341 (71 + f), N) else if w = 4 then ((f_X10_signedOf (f : Int) N).bind fun r => some (r.1, r.2)) else if w = 5 then some (N 341 (80 + f), N) else some (-1, N) := fun N e => by
      unfold f_X10_offer
      rw [e, Option.bind_some]
      simp only [sd_wid (z := 62 + (f : Int)) (by omega) (by omega), sd_wid (z := 13 + (f : Int)) (by omega) (by omega), sd_wid (z := 71 + (f : Int)) (by omega) (by omega), sd_wid (z := 80 + (f : Int)) (by omega) (by omega)]
      rw [if_neg (by omega), if_pos (show 0 ≤ 62 + (f : Int) ∧ 62 + (f : Int) < 128 by omega), if_pos (show 0 ≤ 13 + (f : Int) ∧ 13 + (f : Int) < 128 by omega), if_pos (show 0 ≤ 71 + (f : Int) ∧ 71 + (f : Int) < 128 by omega), if_pos (show 0 ≤ 80 + (f : Int) ∧ 80 + (f : Int) < 128 by omega), show (62 + (f : Int)).toNat = 62 + f by omega, show (13 + (f : Int)).toNat = 13 + f by omega, show (71 + (f : Int)).toNat = 71 + f by omega, show (80 + (f : Int)).toNat = 80 + f by omega]
    by_cases c0 : w = 0
    · refine k (M 341 (62 + f)) (by rw [x1, if_pos c0, bf.1]) (fun N hN q e e2 => ?_)
      rw [x2 N e, if_pos c0, e2]
      exact ms_t_r ⟨rfl, rf_q_rf⟩
    by_cases c1 : w = 1
    · refine k (M 341 (13 + f)) (by rw [x1, if_neg c0, if_pos c1, bf.2.1]) (fun N hN q e e2 => ?_)
      rw [x2 N e, if_neg c0, if_pos c1, e2]
      exact ms_t_r ⟨rfl, rf_q_rf⟩
    by_cases c2 : w = 2
    · refine k (ms_nf (M 341) f (M 341 3).toNat) (by rw [x1, if_neg c0, if_neg c1, if_pos c2, show M 62 f = _ from (t.2.1 f c.2).2.2]) (fun N hN q e e2 => ?_)
      rw [x2 N e, if_neg c0, if_neg c1, if_pos c2, rf_needsOf (iv_ok hN), e2]
      exact ms_t_r ⟨rfl, rf_q_rf⟩
    by_cases c3 : w = 3
    · refine k (M 341 (71 + f)) (by rw [x1, if_neg c0, if_neg c1, if_neg c2, if_pos c3, show M 69 f = _ from b.1.2.2.1 f (by omega)]) (fun N hN q e e2 => ?_)
      rw [x2 N e, if_neg c0, if_neg c1, if_neg c2, if_pos c3, e2]
      exact ms_t_r ⟨rfl, rf_q_rf⟩
    by_cases c4 : w = 4
    · refine k (ms_sg (M 341) (f : Int)) (by rw [x1, if_neg c0, if_neg c1, if_neg c2, if_neg c3, if_pos c4, show M 70 f = _ from b.2.2 f (by omega)]) (fun N hN q e e2 => ?_)
      rw [x2 N e, if_neg c0, if_neg c1, if_neg c2, if_neg c3, if_pos c4]
      refine ms_t_b (rf_signedOf (iv_ok hN) (f : Int)) (fun v K hK => ms_t_r ⟨?_, rf_q_f hK.2⟩)
      rw [e2] at hK
      exact hK.1
    by_cases c5 : w = 5
    · refine k (M 341 (80 + f)) (by rw [x1, if_neg c0, if_neg c1, if_neg c2, if_neg c3, if_neg c4, if_pos c5, bf.2.2]) (fun N hN q e e2 => ?_)
      rw [x2 N e, if_neg c0, if_neg c1, if_neg c2, if_neg c3, if_neg c4, if_pos c5, e2]
      exact ms_t_r ⟨rfl, rf_q_rf⟩
    refine k (-1) (by rw [x1, if_neg c0, if_neg c1, if_neg c2, if_neg c3, if_neg c4, if_neg c5]) (fun N hN q e e2 => ?_)
    rw [x2 N e, if_neg c0, if_neg c1, if_neg c2, if_neg c3, if_neg c4, if_neg c5]
    exact ms_t_r ⟨rfl, rf_q_rf⟩
  · refine ⟨-1, ?_, fun N hN q => ?_⟩
    · unfold f_X9_offer
      rw [iv_isOffer h, if_neg c, Option.bind_some]
      exact ms_t_r ⟨rfl, cl_qf_rf⟩
    · unfold f_X10_offer
      rw [rf_isOffer, cl_qf_hi q (show 331 ≤ 341 by omega), if_neg c, Option.bind_some]
      exact ms_t_r ⟨rfl, rf_q_rf⟩)
/-- where the i-th need of an offer stands -/
def ms_nd (S : Nat → Int) (f : Int) : Nat → Nat → Int → Int
  | 0, _, _ => -1
  | m + 1, k, i => if S (22 + 3 * k) = f then (if i = 0 then (k : Int) else ms_nd S f m (k + 1) (i - 1)) else ms_nd S f m (k + 1) i
theorem ms_nd_n {S : Nat → Int} {f : Int} : ∀ (m k : Nat) (i : Int), i < 0 → ms_nd S f m k i = -1
  | 0, _, _, _ => rfl
  | m + 1, k, i, h => by
    rw [ms_nd]
    split
    · rw [if_neg (by omega), ms_nd_n m (k + 1) (i - 1) (by omega)]
    · exact ms_nd_n m (k + 1) i h
theorem ms_nd_b {S : Nat → Int} {f : Int} : ∀ (m k : Nat) (i : Int), ms_nd S f m k i = -1 ∨ ((k : Int) ≤ ms_nd S f m k i ∧ ms_nd S f m k i < k + m)
  | 0, _, _ => Or.inl rfl
  | m + 1, k, i => by
    have a := ms_nd_b (S := S) (f := f) m (k + 1) (i - 1)
    have b := ms_nd_b (S := S) (f := f) m (k + 1) i
    push_cast at a b
    rw [ms_nd]
    push_cast
    split
    · split <;> omega
    · omega
theorem cl_findNeed_l {M : sd_M} {S : Nat → Int} (h : ms_ok S) (ht : cl_tn M S) (f i : Int) : ∀ (m k fu : Nat) (s : Int), (k : Int) + m = S 3 → m < fu → (0 ≤ s ∧ s ≤ k) → f_X8_findNeed_5 59 fu f i s (k : Int) M = some (ms_nd S f m k (i - s), M) := by
  have t := h.1.2.2.1
  intro m
  induction m with
  | zero =>
    intro k fu s hk hf hs
    obtain ⟨fu, rfl⟩ : ∃ g, fu = g + 1 := ⟨fu - 1, by omega⟩
    rw [f_X8_findNeed_5, ht.1.2, if_pos (by omega)]
    rfl
  | succ m ih =>
    intro k fu s hk hf hs
    obtain ⟨fu, rfl⟩ : ∃ g, fu = g + 1 := ⟨fu - 1, by omega⟩
    have e : M (59 + 4) k = S (22 + 3 * k) := (ht.2.2 k (by omega)).1
    rw [f_X8_findNeed_5, ht.1.2, if_neg (by omega), if_pos (by omega), Int.toNat_natCast, e, ms_nd, f_X8_findNeed_36, f_X8_findNeed_36, sd_wid (z := (k : Int) + 1) (by omega) (by omega), sd_wid (z := s + 1) (by omega) (by omega)]
    have u1 := ih (k + 1) fu (s + 1) (by omega) (by omega) (by omega)
    have u2 := ih (k + 1) fu s (by omega) (by omega) (by omega)
    push_cast at u1 u2
    by_cases c : S (22 + 3 * k) = f
    · rw [if_pos c, if_pos c]
      by_cases d : s = i
      · rw [if_pos d, if_pos (by omega)]
      · rw [if_neg d, if_neg (by omega), u1, show i - (s + 1) = i - s - 1 by omega]
    · rw [if_neg c, if_neg c, u2]
theorem rf_need_l {M : sd_M} (h : ms_ok (M 341)) (f w : Int) : ∀ (m k fu : Nat) (i : Int), (k : Int) + m = M 341 3 → m < fu → (0 ≤ i ∧ i < 2147483648) → f_X10_need_32 f_X10_need_67 fu f w i (k : Int) M = if ms_nd (M 341) f m k i < 0 then some (-1, M) else f_X10_need_67 f w (ms_nd (M 341) f m k i) M := by
  have t := h.1.2.2.1
  intro m
  induction m with
  | zero =>
    intro k fu i hk hf hi
    obtain ⟨fu, rfl⟩ : ∃ g, fu = g + 1 := ⟨fu - 1, by omega⟩
    rw [f_X10_need_32, if_pos (by omega), ms_nd, if_pos (by omega)]
  | succ m ih =>
    intro k fu i hk hf hi
    obtain ⟨fu, rfl⟩ : ∃ g, fu = g + 1 := ⟨fu - 1, by omega⟩
    rw [f_X10_need_32, if_neg (by omega), sd_wid (z := 3 * (k : Int)) (by omega) (by omega), sd_wid (z := 22 + 3 * (k : Int)) (by omega) (by omega), if_pos (by omega), sd_t22, ms_nd, f_X10_need_117, f_X10_need_117, sd_wid (z := (k : Int) + 1) (by omega) (by omega), sd_wid (z := i + (-1)) (by omega) (by omega)]
    by_cases c : M 341 (22 + 3 * k) = f
    · rw [if_pos c, if_pos c]
      by_cases d : i = 0
      · rw [if_pos d, if_pos d, if_neg (by omega)]
      · rw [if_neg d, if_neg d]
        have u1 := ih (k + 1) fu (i + (-1)) (by omega) (by omega) (by omega)
        push_cast at u1
        rw [u1, show i + (-1) = i - 1 by omega]
    · rw [if_neg c, if_neg c]
      have u2 := ih (k + 1) fu i (by omega) (by omega) hi
      push_cast at u2
      exact u2
theorem sp_need : sd_S3 sd_Iv f_X9_need f_X10_need := iv_q3 (fun M h p i w hp hi hw => by
  have ok := iv_ok h
  have l := ms_lines ok
  have b := iv_bk h
  have t := iv_tn h
  have t3 := ok.1.2.2.1
  unfold sd_rg at hi
  by_cases c : 0 ≤ p ∧ p < M 341 2
  · have x1 : f_X9_need p i w M = f_X9_need_24 p w (ms_nd (M 341) p (M 341 3).toNat 0 i) M := by
      have fn := cl_findNeed_l ok t p i (M 341 3).toNat 0 4000 0 (by omega) (by omega) (by omega)
      have fn2 : f_X8_findNeed 59 p i M = some (ms_nd (M 341) p (M 341 3).toNat 0 (i - 0), M) := fn
      unfold f_X9_need
      rw [iv_isOffer h, if_pos c, Option.bind_some]
      simp only []
      rw [if_neg (by omega), fn2, Option.bind_some, Int.sub_zero]
    have nb := ms_nd_b (S := M 341) (f := p) (M 341 3).toNat 0 i
    by_cases d : ms_nd (M 341) p (M 341 3).toNat 0 i = -1
    · refine ⟨-1, ?_, fun N hN q => ?_⟩
      · rw [x1, d, f_X9_need_24, if_pos rfl]
        exact ms_t_r ⟨rfl, cl_qf_rf⟩
      · have e2 : N 341 = M 341 := cl_qf_hi q (by omega)
        unfold f_X10_need
        rw [rf_isOffer, e2, if_pos c, Option.bind_some]
        simp only []
        rw [if_neg (by omega)]
        by_cases g : i < 0
        · rw [if_pos g]
          exact ms_t_r ⟨rfl, rf_q_rf⟩
        · rw [if_neg g, rf_in, Option.bind_some]
          simp only []
          by_cases z : 0 ≤ w ∧ w ≤ 2
          · rw [if_pos z, if_neg (by omega)]
            have s := rf_need_l (iv_ok hN) p w (N 341 3).toNat 0 4000 i (by rw [e2]; omega) (by rw [e2]; omega) (by omega)
            rw [e2, d, if_pos (by omega)] at s
            exact ms_t_e s ⟨rfl, rf_q_rf⟩
          · rw [if_neg z, if_pos rfl]
            exact ms_t_r ⟨rfl, rf_q_rf⟩
    · obtain ⟨k, hk⟩ : ∃ k : Nat, ms_nd (M 341) p (M 341 3).toNat 0 i = k := ⟨(ms_nd (M 341) p (M 341 3).toNat 0 i).toNat, by omega⟩
      rw [hk] at x1 nb d
      have k3 : (k : Int) < M 341 3 := by omega
      have tk := t.2.2 k k3
      have i0 : 0 ≤ i := by
        by_cases g : i < 0
        · rw [ms_nd_n _ _ _ g] at hk
          omega
        · omega
      have x2 : ∀ N, sd_Iv N → N 341 = M 341 → f_X10_need p i w N = if 0 ≤ w ∧ w ≤ 2 then f_X10_need_67 p w (k : Int) N else some (-1, N) := fun N hN e2 => by
        unfold f_X10_need
        rw [rf_isOffer, e2, if_pos c, Option.bind_some]
        simp only []
        rw [if_neg (by omega), if_neg (by omega), rf_in, Option.bind_some]
        simp only []
        by_cases z : 0 ≤ w ∧ w ≤ 2
        · rw [if_pos z, if_neg (by omega), if_pos z]
          have s := rf_need_l (iv_ok hN) p w (N 341 3).toNat 0 4000 i (by rw [e2]; omega) (by rw [e2]; omega) (by omega)
          rw [e2, hk, if_neg (by omega)] at s
          exact s
        · rw [if_neg z, if_pos rfl, if_neg z]
      have x3 : f_X9_need p i w M = if w = 0 then some (M 64 k, M) else if w = 1 then some (M 65 k, M) else if w = 2 then ((f_X9_isLine p M).bind fun r7 => if r7.1 = 0 then (some (0, r7.2)) else ((f_X0_holds 66 (k : Int) r7.2).bind fun r9 => if r9.1 = 0 then (some (0, r9.2)) else (some (1, r9.2)))) else some (-1, M) := by
        rw [x1, f_X9_need_24, if_neg (by omega), if_pos (show 0 ≤ (k : Int) ∧ (k : Int) < 12 by omega), if_pos (show 0 ≤ (k : Int) ∧ (k : Int) < 12 by omega), Int.toNat_natCast]
      have x4 : 0 ≤ w → ∀ N, f_X10_need_67 p w (k : Int) N = if 2 ≤ w then ((f_X10_isLine p N).bind fun r2 => if r2.1 = 0 then (some (0, r2.2)) else ((f_X10_holds (k : Int) r2.2).bind fun r4 => if r4.1 = 0 then (some (0, r4.2)) else (some (1, r4.2)))) else (if 0 ≤ 22 + 3 * (k : Int) + 1 + w ∧ 22 + 3 * (k : Int) + 1 + w < 128 then (some (N 341 (22 + 3 * (k : Int) + 1 + w).toNat, N)) else none) := fun w0 N => by
        unfold f_X10_need_67
        by_cases z : 2 ≤ w
        · rw [if_pos z, if_pos z]
        · rw [if_neg z, if_neg z, sd_wid (z := 3 * (k : Int)) (by omega) (by omega), sd_wid (z := 22 + 3 * (k : Int)) (by omega) (by omega), sd_wid (z := 22 + 3 * (k : Int) + 1) (by omega) (by omega)]
          rw [sd_wid (z := 22 + 3 * (k : Int) + 1 + w) (by omega) (by omega)]
      by_cases c0 : w = 0
      · subst c0
        refine ⟨M 341 (23 + 3 * k), ?_, fun N hN q => ?_⟩
        · rw [x3, if_pos rfl, tk.2.1]
          exact ms_t_r ⟨rfl, cl_qf_rf⟩
        · have e2 : N 341 = M 341 := cl_qf_hi q (by omega)
          rw [x2 N hN e2, if_pos (by omega), x4 (by omega), if_neg (by omega), if_pos (by omega), show (22 + 3 * (k : Int) + 1 + 0).toNat = 23 + 3 * k by omega, e2]
          exact ms_t_r ⟨rfl, rf_q_rf⟩
      by_cases c1 : w = 1
      · subst c1
        refine ⟨M 341 (24 + 3 * k), ?_, fun N hN q => ?_⟩
        · rw [x3, if_neg c0, if_pos rfl, tk.2.2]
          exact ms_t_r ⟨rfl, cl_qf_rf⟩
        · have e2 : N 341 = M 341 := cl_qf_hi q (by omega)
          rw [x2 N hN e2, if_pos (by omega), x4 (by omega), if_neg (by omega), if_pos (by omega), show (22 + 3 * (k : Int) + 1 + 1).toNat = 24 + 3 * k by omega, e2]
          exact ms_t_r ⟨rfl, rf_q_rf⟩
      by_cases c2 : w = 2
      · subst c2
        by_cases ln : (0 ≤ p ∧ p < M 341 2) ∧ M 341 (71 + p.toNat) = 1
        · refine ⟨if ms_hd (M 341) k = true then 1 else 0, ?_, fun N hN q => ?_⟩
          · rw [x3, if_neg c0, if_neg c1, if_pos rfl, iv_isLine h, if_pos ln, Option.bind_some]
            simp only []
            rw [if_neg (by omega), cl_holds ok b t k3, Option.bind_some]
            simp only []
            by_cases hd : ms_hd (M 341) k = true
            · rw [if_pos hd, if_neg (by omega)]
              exact ms_t_r ⟨rfl, cl_qf_rf⟩
            · rw [if_neg hd, if_pos rfl]
              exact ms_t_r ⟨rfl, cl_qf_rf⟩
          · have e2 : N 341 = M 341 := cl_qf_hi q (by omega)
            rw [x2 N hN e2, if_pos (by omega), x4 (by omega), if_pos (by omega), rf_isLine (iv_ok hN), e2, if_pos ln, Option.bind_some]
            simp only []
            rw [if_neg (by omega)]
            refine ms_t_b (rf_holds (iv_ok hN) (k := k) (by rw [e2]; exact k3)) (fun v K hK => ?_)
            rw [e2] at hK
            simp only []
            by_cases hd : ms_hd (M 341) k = true
            · rw [if_pos hd] at hK
              rw [if_neg (by omega), if_pos hd]
              exact ms_t_r ⟨rfl, rf_q_f hK.2⟩
            · rw [if_neg hd] at hK
              rw [if_pos hK.1, if_neg hd]
              exact ms_t_r ⟨rfl, rf_q_f hK.2⟩
        · refine ⟨0, ?_, fun N hN q => ?_⟩
          · rw [x3, if_neg c0, if_neg c1, if_pos rfl, iv_isLine h, if_neg ln, Option.bind_some]
            exact ms_t_r ⟨rfl, cl_qf_rf⟩
          · have e2 : N 341 = M 341 := cl_qf_hi q (by omega)
            rw [x2 N hN e2, if_pos (by omega), x4 (by omega), if_pos (by omega), rf_isLine (iv_ok hN), e2, if_neg ln, Option.bind_some]
            exact ms_t_r ⟨rfl, rf_q_rf⟩
      refine ⟨-1, ?_, fun N hN q => ?_⟩
      · rw [x3, if_neg c0, if_neg c1, if_neg c2]
        exact ms_t_r ⟨rfl, cl_qf_rf⟩
      · have e2 : N 341 = M 341 := cl_qf_hi q (by omega)
        rw [x2 N hN e2, if_neg (by omega)]
        exact ms_t_r ⟨rfl, rf_q_rf⟩
  · refine ⟨-1, ?_, fun N hN q => ?_⟩
    · unfold f_X9_need
      rw [iv_isOffer h, if_neg c, Option.bind_some]
      simp only []
      rw [if_pos (by trivial), f_X9_need_24, if_pos rfl]
      exact ms_t_r ⟨rfl, cl_qf_rf⟩
    · unfold f_X10_need
      rw [rf_isOffer, cl_qf_hi q (show 331 ≤ 341 by omega), if_neg c, Option.bind_some]
      exact ms_t_r ⟨rfl, rf_q_rf⟩)
