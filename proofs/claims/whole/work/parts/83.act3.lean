/-! claim, undo -/
def ms_cl (S : Nat → Int) (much : Int) : Nat → Nat → Int
  | 0 => S
  | k + 1 => ms_u (ms_cl S much k) (80 + (S (89 + k)).toNat) (if S (80 + (S (89 + k)).toNat) + ms_pt much (ms_sk S) (S 60).toNat k < 9999 then S (80 + (S (89 + k)).toNat) + ms_pt much (ms_sk S) (S 60).toNat k else 9999)
theorem ms_ok_80 {S : Nat → Int} (h : ms_ok S) {v : Int} (hv : 0 ≤ v ∧ v ≤ 9999) {f : Nat} (hf : f < 9) : ms_ok (ms_u S (80 + f) v) := by
  have l := ms_lines h
  refine ms_ok_g h (ms_tl_c (fun i hi => ms_u_ne (by omega)) h.1) (ms_u_ne (by omega)) ?_ (fun g hg => ?_) (fun i hi => ms_u_ne (by omega))
  · rw [ms_u_ne (by omega), ms_u_ne (by omega)]
    exact h.2.2.1
  · have a := h.2.2.2.1 g hg
    rw [ms_u_ne (show 62 + g ≠ 80 + f by omega)]
    refine ⟨a.1, ?_⟩
    by_cases e : g = f
    · rw [e, ms_u_at]
      exact hv
    · rw [ms_u_ne (by omega)]
      exact a.2.2
theorem cl_bk_80 {M : sd_M} {b : Nat} {S : Nat → Int} (h : ms_ok S) (hb : cl_bk M b S) (v : Int) {f : Nat} (hf : f < 9) : cl_bk (sd_s M (b + 5) f v) b (ms_u S (80 + f) v) := by
  have l := ms_lines h
  have q : ms_eq S (ms_u S (80 + f) v) := fun i hi => ms_u_ne (by omega)
  obtain ⟨⟨⟨b0, b1, b3, b4⟩, bf, bw, bl, bo⟩, bp, bsg⟩ := hb
  refine ⟨⟨⟨?_, ?_, ?_, ?_⟩, fun g hg => ?_, fun g hg => ?_, fun k hk => ?_, fun k hk => ?_⟩, ?_, fun g hg => ?_⟩
  · rw [sd_s_a (by omega), ms_u_ne (by omega)]; exact b0
  · rw [sd_s_a (by omega), ms_u_ne (by omega)]; exact b1
  · rw [sd_s_a (by omega), ms_u_ne (by omega)]; exact b3
  · rw [sd_s_a (by omega), ms_u_ne (by omega)]; exact b4
  · rw [ms_u_ne (by omega)] at hg
    have a := bf g hg
    rw [sd_s_a (show b + 1 ≠ b + 5 by omega), sd_s_a (show b + 2 ≠ b + 5 by omega), ms_u_ne (show 62 + g ≠ 80 + f by omega), ms_u_ne (show 13 + g ≠ 80 + f by omega)]
    refine ⟨a.1, a.2.1, ?_⟩
    by_cases e : g = f
    · rw [e, sd_s_at, ms_u_at]
    · rw [sd_s_j e, ms_u_ne (by omega)]
      exact a.2.2
  · rw [sd_s_a (by omega), ms_u_ne (by omega)]; exact bw g hg
  · rw [ms_u_ne (by omega)] at hk
    rw [sd_s_a (by omega), ms_u_ne (by omega)]; exact bl k hk
  · rw [ms_u_ne (by omega)] at hk
    rw [sd_s_a (by omega), ms_u_ne (by omega)]; exact bo k hk
  · rw [sd_s_a (by omega), ms_pl_c h q]; exact bp
  · rw [sd_s_a (by omega), ms_sg_c h q]; exact bsg g hg
theorem ms_cl_p {S : Nat → Int} (h : ms_ok S) {much : Int} (hm : 0 ≤ much ∧ much ≤ 9999) : ∀ k : Nat, (k : Int) ≤ S 60 → ms_ok (ms_cl S much k) ∧ (∀ i, ¬ (80 ≤ i ∧ i < 89) → ms_cl S much k i = S i) ∧ (∀ f : Nat, (∀ j, j < k → (S (89 + j)).toNat ≠ f) → ms_cl S much k (80 + f) = S (80 + f)) := by
  have l := ms_lines h
  intro k
  induction k with
  | zero => intro _; exact ⟨h, fun _ _ => rfl, fun _ _ => rfl⟩
  | succ k ih =>
    intro hk
    obtain ⟨a1, a2, a3⟩ := ih (by omega)
    have ln := ms_line h (k := k) (by omega)
    have pt := ms_pt_b (ms_sz_sk h hm) (ms_ss h (by omega)) (k := k) (by omega)
    refine ⟨ms_ok_80 a1 (by split <;> omega) (by omega), fun i hi => ?_, fun f hf => ?_⟩
    · rw [ms_cl, ms_u_ne (by omega), a2 i hi]
    · rw [ms_cl, ms_u_ne (by have := hf k (by omega); omega), a3 f (fun j hj => hf j (by omega))]
theorem cl_claim_l {M0 : sd_M} {S : Nat → Int} (h : ms_ok S) {much : Int} (hm : 0 ≤ much ∧ much ≤ 9999) (h1 : 1 ≤ S 60) (hp : ∀ k : Nat, (k : Int) < S 60 → M0 326 (S (89 + k)).toNat = ms_pt much (ms_sk S) (S 60).toNat k) : ∀ (m k fu : Nat) (M : sd_M), (k : Int) + m = S 60 → m < fu → cl_bk M 66 (ms_cl S much k) → (∀ a, a ≠ 71 → M a = M0 a) → ms_T (f_X9_claim_45 f_X9_claim_95 fu (k : Int) M) (fun v N => v = ms_cl S much (S 60).toNat (80 + (S 89).toNat) ∧ cl_bk N 66 (ms_cl S much (S 60).toNat) ∧ ∀ a, a ≠ 71 → N a = M0 a) := by
  have l := ms_lines h
  intro m
  induction m with
  | zero =>
    intro k fu M hk hf hb fr
    obtain ⟨fu, rfl⟩ : ∃ g, fu = g + 1 := ⟨fu - 1, by omega⟩
    have p := ms_cl_p h hm k (by omega)
    have ln : (0 ≤ S 89 ∧ S 89 < S 2) ∧ S (71 + (S 89).toNat) = 1 := ms_ln h (k := 0) (by omega)
    have e72 : M 72 0 = S 89 := by
      have : M 72 0 = _ := hb.1.2.2.2.1 0 (by rw [p.2.1 60 (by omega)]; omega)
      rw [this, p.2.1 (89 + 0) (by omega)]
    rw [f_X9_claim_45, hb.1.1.2.2.1, p.2.1 60 (by omega), if_pos (by omega), f_X9_claim_95, e72, if_pos (by omega), show (S 60).toNat = k by omega]
    refine ms_t_r ⟨?_, hb, fr⟩
    exact (hb.1.2.1 (S 89).toNat (by rw [p.2.1 2 (by omega)]; omega)).2.2
  | succ m ih =>
    intro k fu M hk hf hb fr
    obtain ⟨fu, rfl⟩ : ∃ g, fu = g + 1 := ⟨fu - 1, by omega⟩
    have p := ms_cl_p h hm k (by omega)
    have ln := ms_line h (k := k) (by omega)
    have pt := ms_pt_b (ms_sz_sk h hm) (ms_ss h h1) (k := k) (by omega)
    have e72 : M 72 k = S (89 + k) := by
      have : M 72 k = _ := hb.1.2.2.2.1 k (by rw [p.2.1 60 (by omega)]; omega)
      rw [this, p.2.1 (89 + k) (by omega)]
    have e71 : M 71 (S (89 + k)).toNat = S (80 + (S (89 + k)).toNat) := by
      have : M 71 (S (89 + k)).toNat = _ := (hb.1.2.1 (S (89 + k)).toNat (by rw [p.2.1 2 (by omega)]; omega)).2.2
      rw [this, p.2.2 _ (fun j hj e => by
        have lj := ms_line h (k := j) (by omega)
        have := h.2.2.2.2.2.2.1 j k (by omega) (by omega) (by omega)
        omega)]
    have e326 : M 326 (S (89 + k)).toNat = ms_pt much (ms_sk S) (S 60).toNat k := by rw [fr 326 (by omega), hp k (by omega)]
    rw [f_X9_claim_45, hb.1.1.2.2.1, p.2.1 60 (by omega), if_neg (by omega), if_pos (by omega), Int.toNat_natCast, e72, if_pos (by omega), if_pos (by omega), if_pos (by omega), e71, e326, sd_wid (by omega) (by omega), sd_wid (by omega) (by omega)]
    have bk2 := cl_bk_80 p.1 hb (if S (80 + (S (89 + k)).toNat) + ms_pt much (ms_sk S) (S 60).toNat k < 9999 then S (80 + (S (89 + k)).toNat) + ms_pt much (ms_sk S) (S 60).toNat k else 9999) (f := (S (89 + k)).toNat) (by omega)
    have up := ih (k + 1) fu (sd_s M 71 (S (89 + k)).toNat (if S (80 + (S (89 + k)).toNat) + ms_pt much (ms_sk S) (S 60).toNat k < 9999 then S (80 + (S (89 + k)).toNat) + ms_pt much (ms_sk S) (S 60).toNat k else 9999)) (by omega) (by omega) bk2 (fun a x => by rw [sd_s_a x, fr a x])
    push_cast at up
    exact up
theorem rf_claim_l {M0 : sd_M} {S : Nat → Int} (h : ms_ok S) {much : Int} (hm : 0 ≤ much ∧ much ≤ 9999) (h1 : 1 ≤ S 60) (hp : ∀ k : Nat, (k : Int) < S 60 → M0 343 k = ms_pt much (ms_sk S) (S 60).toNat k) : ∀ (m k fu : Nat) (M : sd_M), (k : Int) + m = S 60 → m < fu → M 341 = ms_cl S much k → (∀ a, a ≠ 341 → M a = M0 a) → ms_T (f_X10_claim_35 f_X10_claim_109 fu (k : Int) M) (fun v N => v = ms_cl S much (S 60).toNat (80 + (S 89).toNat) ∧ N 341 = ms_cl S much (S 60).toNat ∧ ∀ a, a ≠ 341 → N a = M0 a) := by
  have l := ms_lines h
  intro m
  induction m with
  | zero =>
    intro k fu M hk hf e fr
    obtain ⟨fu, rfl⟩ : ∃ g, fu = g + 1 := ⟨fu - 1, by omega⟩
    have p := ms_cl_p h hm k (by omega)
    have ln : (0 ≤ S 89 ∧ S 89 < S 2) ∧ S (71 + (S 89).toNat) = 1 := ms_ln h (k := 0) (by omega)
    rw [f_X10_claim_35, e, p.2.1 60 (by omega), if_pos (by omega), f_X10_claim_109, e, p.2.1 89 (by omega), sd_wid (by omega) (by omega), if_pos (by omega), sd_tn80 (by omega), show (S 60).toNat = k by omega]
    exact ms_t_r ⟨rfl, e, fr⟩
  | succ m ih =>
    intro k fu M hk hf e fr
    obtain ⟨fu, rfl⟩ : ∃ g, fu = g + 1 := ⟨fu - 1, by omega⟩
    have p := ms_cl_p h hm k (by omega)
    have ln := ms_line h (k := k) (by omega)
    have pt := ms_pt_b (ms_sz_sk h hm) (ms_ss h h1) (k := k) (by omega)
    have e80 : ms_cl S much k (80 + (S (89 + k)).toNat) = S (80 + (S (89 + k)).toNat) := p.2.2 _ (fun j hj x => by
      have lj := ms_line h (k := j) (by omega)
      have := h.2.2.2.2.2.2.1 j k (by omega) (by omega) (by omega)
      omega)
    rw [f_X10_claim_35, e, p.2.1 60 (by omega), if_neg (by omega), sd_wid (z := 89 + (k : Int)) (by omega) (by omega), if_pos (by omega), show (89 + (k : Int)).toNat = 89 + k by omega, p.2.1 (89 + k) (by omega), sd_wid (z := 80 + S (89 + k)) (by omega) (by omega), if_pos (by omega), if_pos (by omega), sd_tn80 (by omega), e80, Int.toNat_natCast, fr 343 (by omega), hp k (by omega), sd_wid (z := S (80 + (S (89 + k)).toNat) + ms_pt much (ms_sk S) (S 60).toNat k) (by omega) (by omega), f_X10_claim_102, f_X10_claim_102, sd_wid (z := (k : Int) + 1) (by omega) (by omega), sd_tn80 (by omega)]
    have up := ih (k + 1) fu (sd_s M 341 (80 + (S (89 + k)).toNat) (if S (80 + (S (89 + k)).toNat) + ms_pt much (ms_sk S) (S 60).toNat k < 9999 then S (80 + (S (89 + k)).toNat) + ms_pt much (ms_sk S) (S 60).toNat k else 9999)) (by omega) (by omega) (by rw [sd_s_row, e, ms_cl]) (fun a x => by rw [sd_s_a x, fr a x])
    push_cast at up
    by_cases c : S (80 + (S (89 + k)).toNat) + ms_pt much (ms_sk S) (S 60).toNat k < 9999
    · rw [if_pos c] at up
      rw [if_neg (by omega), if_pos (by omega), if_pos (by omega), if_pos (by omega)]
      exact up
    · rw [if_neg c] at up
      rw [if_pos (by omega), if_pos (by omega)]
      exact up
theorem sp_claim : sd_S1 sd_Iv f_X9_claim f_X10_claim := by
  intro M h v hv
  have ok := iv_ok h
  have l := ms_lines ok
  have sl := iv_sl h
  have bk := iv_bk h
  by_cases c : (1 ≤ v ∧ v ≤ 9999) ∧ 1 ≤ M 341 60
  · obtain ⟨c1, c2⟩ := c
    have c3 : 0 ≤ v ∧ v ≤ 9999 := by omega
    obtain ⟨N1, e1, p1, b1, p2⟩ := cl_rem h
    have r1 : cl_rm M N1 := ⟨p1, p2⟩
    obtain ⟨_, N1b, e1b, x1, f1b⟩ := cl_pence ok b1 c2 c3
    have b1b : cl_bk N1b 66 (M 341) := cl_bk_c ok b1 (fun _ _ => rfl) (fun a x y => f1b a (by omega))
    obtain ⟨w, N2, e2, v2, b2, f2⟩ := cl_claim_l (M0 := N1b) ok c3 c2 x1 (M 341 60).toNat 0 4000 N1b (by omega) (by omega) b1b (fun _ _ => rfl)
    have pn := h.2.2.1.1.2.2
    have p := ms_cl_p ok c3 (M 341 60).toNat (by omega)
    -- the class may also change its row of parts
    have fr : ∀ a, a ≠ 71 → a ≠ 326 → N2 a = N1 a := fun a x y => by rw [f2 a x, f1b a y]
    have hi : ∀ a, 331 ≤ a → N2 a = M a := fun a x => by rw [fr a (by omega) (by omega), r1.2.2.2.2 a (by omega) (by omega)]
    have h31 : N2 331 = M 331 := hi 331 (by omega)
    have h41 : N2 341 = M 341 := hi 341 (by omega)
    obtain ⟨_, K, e3, k1, k2, k3, k4⟩ := rf_ka2 h h31 h41
    obtain ⟨_, K2, e3b, y1, y2⟩ := rf_pbs (M := K) (much := v) (by rw [k2]; exact ok) c3
    rw [k2] at y2
    obtain ⟨u, L, e4, u2, l1, l2⟩ := rf_claim_l (M0 := K2) ok c3 c2 y2 (M 341 60).toNat 0 4000 K2 (by omega) (by omega) (by rw [rf_f_41 y1, k2]; rfl) (fun _ _ => rfl)
    refine ⟨w, N2, L, ?_, ?_, ?_⟩
    · unfold f_X9_claim
      rw [if_neg (by omega), if_neg (by omega), bk.1.1.2.2.1, if_pos c2, e1, Option.bind_some]
      simp only []
      rw [e1b, Option.bind_some]
      exact e2
    · unfold f_X10_claim
      rw [h41, if_neg (by omega), rf_in1 c1, Option.bind_some]
      simp only []
      rw [if_neg (by omega), e3, Option.bind_some]
      simp only []
      rw [e3b, Option.bind_some]
      simp only []
      rw [v2, ← u2]
      exact e4
    · have d : rf_d K L := rf_d_tr (rf_d_f y1) (rf_d_41 l2)
      obtain ⟨k1a, k1b, k1c, k1d⟩ := k1
      have lo : ∀ a, a < 331 → L a = N2 a := fun a x => by rw [d.1 a (by omega) (by omega) (by omega) (by omega) (by omega) (by omega) (by omega), k1c a (by omega) (by omega)]
      have l0 : L 0 = N1 0 := by rw [lo 0 (by omega), fr 0 (by omega) (by omega)]
      rw [h31] at k1a k1b
      rw [h31, h41, hi 345 (by omega)] at k1d
      obtain ⟨q1, q2, q3, q4, q5⟩ := r1
      refine iv_act h ⟨p.1, by rw [p.2.1 58 (by omega)]; exact sl.2.1⟩ (fun i hi => p.2.1 i (by omega)) l1 (cl_bk_c p.1 b2 (fun _ _ => rfl) (fun a x y => lo a (by omega))) (by rw [l0]; exact q2) (by rw [l0]; exact q3) (by rw [l0]; exact q4) (cl_bk_c ok q1 (fun _ _ => rfl) (fun a x y => by rw [lo a (by omega), fr a (by omega) (by omega)])) (fun a x y z => by rw [lo a (by omega), fr a (by omega) (by omega), q5 a y (by omega)]) (fun a x y z => by rw [lo a (by omega), fr a (by omega) (by omega), q5 a (by omega) z]) ?_ (fun j hj => by rw [d.2 j (by omega), k1b j (by omega)]) (fun j hj => ?_) (fun a ha => ?_)
      · rw [d.2 27 (by omega), k1a]
      · rw [d.1 345 (by omega) (by omega) (by omega) (by omega) (by omega) (by omega) (by omega), k1d j hj]
      · rw [d.1 a (by omega) (by omega) (by omega) (by omega) (by omega) (by omega) (by omega), k1c a (by omega) (by omega), hi a (by omega)]
  · refine ⟨-1, M, M, ?_, ?_, h⟩
    · unfold f_X9_claim
      by_cases c1 : v < 1
      · rw [if_pos c1]
      · rw [if_neg c1]
        by_cases c2 : 9999 < v
        · rw [if_pos c2]
        · rw [if_neg c2, bk.1.1.2.2.1, if_neg (by omega)]
    · unfold f_X10_claim
      by_cases c1 : M 341 60 = 0
      · rw [if_pos c1]
      · rw [if_neg c1, rf_in0 (by omega), Option.bind_some]
        rfl
theorem rf_undo_l {M0 : sd_M} {u : Nat} (hu : u < 20) (e27 : M0 331 27 = u) : ∀ (m k fu : Nat) (M : sd_M), k + m = 49 → m < fu → (∀ a, a ≠ 341 → M a = M0 a) → (∀ i, M 341 i = if 58 ≤ i ∧ i < 58 + k then M0 345 (49 * u + (i - 58)) else M0 341 i) → ms_T (f_X10_undo_21 f_X10_undo_56 fu (k : Int) M) (fun v N => v = u ∧ N 341 = ms_wa (M0 341) (M0 345) (49 * u) ∧ ∀ a, a ≠ 341 → N a = M0 a) := by
  intro m
  induction m with
  | zero =>
    intro k fu M hk hf h1 h2
    obtain ⟨fu, rfl⟩ : ∃ g, fu = g + 1 := ⟨fu - 1, by omega⟩
    rw [f_X10_undo_21, if_pos (by omega), f_X10_undo_56, h1 331 (by omega), e27]
    refine ms_t_r ⟨rfl, ?_, h1⟩
    funext i
    rw [h2 i, show k = 49 by omega]
    rfl
  | succ m ih =>
    intro k fu M hk hf h1 h2
    obtain ⟨fu, rfl⟩ : ∃ g, fu = g + 1 := ⟨fu - 1, by omega⟩
    have up := ih (k + 1) fu (sd_s M 341 (58 + k) (M 345 (49 * u + k))) (by omega) (by omega) (fun a x => by rw [sd_s_a x, h1 a x]) (fun i => by
      by_cases e : i = 58 + k
      · subst e
        rw [sd_s_at, h1 345 (by omega), if_pos (by omega)]
        congr 1
        omega
      · rw [sd_s_j e, h2 i]
        by_cases c : 58 ≤ i ∧ i < 58 + k
        · rw [if_pos c, if_pos (by omega)]
        · rw [if_neg c, if_neg (by omega)])
    push_cast at up
    rw [f_X10_undo_21, if_neg (by omega), h1 331 (by omega), e27, sd_wid (z := 49 * (u : Int)) (by omega) (by omega), sd_wid (z := 49 * (u : Int) + (k : Int)) (by omega) (by omega), if_pos (by omega), sd_wid (z := 58 + (k : Int)) (by omega) (by omega), if_pos (by omega), sd_wid (z := (k : Int) + 1) (by omega) (by omega), show (58 + (k : Int)).toNat = 58 + k by omega, show (49 * (u : Int) + (k : Int)).toNat = 49 * u + k by omega]
    exact up
theorem sp_undo : sd_S0 sd_Iv f_X9_undo f_X10_undo := by
  intro M h
  have ok := iv_ok h
  have sl := iv_sl h
  have hu := h.2.2.1
  have u1 := hu.1
  by_cases c : 1 ≤ M 331 27
  · obtain ⟨u, eu⟩ : ∃ u : Nat, M 331 27 = (u : Int) + 1 := ⟨(M 331 27 - 1).toNat, by omega⟩
    obtain ⟨p, ep⟩ : ∃ p : Nat, (p : Int) = if M 0 10 ≤ 0 then 19 else M 0 10 - 1 := ⟨(if M 0 10 ≤ 0 then 19 else M 0 10 - 1).toNat, by split <;> omega⟩
    have p20 : p < 20 := by
      split at ep <;> omega
    obtain ⟨⟨w1, w2⟩, w3⟩ := hu.2 u (by omega)
    have ix : ((M 0 10).toNat + 20 - (M 331 27).toNat + u) % 20 = p := by
      split at ep <;> omega
    rw [ix] at w3
    have z : ∀ a, 1 ≤ a → sd_s (sd_s M 0 9 (u : Int)) 0 10 (p : Int) a = M a := fun a x => by rw [sd_s_a (by omega), sd_s_a (by omega)]
    obtain ⟨N, e1, b1, f1⟩ := cl_copy_k (M := sd_s (sd_s M 0 9 (u : Int)) 0 10 (p : Int)) (b := 66) (o := 156 + 8 * p) (by omega) w1 (cl_bk_c w1 w3 (fun _ _ => rfl) (fun a x y => z a (by omega)))
    have n0 : N 0 = sd_s (sd_s M 0 9 (u : Int)) 0 10 (p : Int) 0 := f1 0 (by omega)
    have fr : ∀ a, a ≠ 0 → (a < 66 ∨ 74 ≤ a) → N a = M a := fun a x y => by rw [f1 a (by omega), z a (by omega)]
    have r27 : sd_s N 331 27 (u : Int) 331 27 = u := sd_s_at
    obtain ⟨v, L, e2, v2, l1, l2⟩ := rf_undo_l (M0 := sd_s N 331 27 (u : Int)) (u := u) (by omega) r27 49 0 4000 _ (by omega) (by omega) (fun _ _ => rfl) (fun i => by rw [if_neg (by omega)])
    have l1' : L 341 = ms_wa (M 341) (M 345) (49 * u) := by rw [l1, sd_s_a (by omega), sd_s_a (by omega), fr 341 (by omega) (by omega), fr 345 (by omega) (by omega)]
    have ou : ms_ou (M 341) (L 341) := fun i hi => by
      rw [l1']
      unfold ms_wa
      rw [if_neg (by omega)]
    have lo : ∀ a, a ≠ 341 → a ≠ 331 → a ≠ 0 → (a < 66 ∨ 74 ≤ a) → L a = M a := fun a x y w q => by rw [l2 a x, sd_s_a y, fr a w q]
    have l0 : L 0 = sd_s (sd_s M 0 9 (u : Int)) 0 10 (p : Int) 0 := by rw [l2 0 (by omega), sd_s_a (by omega), n0]
    have f31 : ∀ j, j ≠ 27 → L 331 j = M 331 j := fun j hj => by rw [l2 331 (by omega), sd_s_j hj, fr 331 (by omega) (by omega)]
    refine ⟨u, N, L, ?_, ?_, ?_⟩
    · have k1 : f_X9_undo_39 (p : Int) (sd_s M 0 9 (u : Int)) = some ((u : Int), N) := by
        unfold f_X9_undo_39
        rw [sd_s_at, if_pos (by omega), Int.toNat_natCast, e1, Option.bind_some]
        simp only []
        rw [n0, sd_s_j (by omega), sd_s_at]
      unfold f_X9_undo
      rw [u1.1, if_pos c, sd_wid (by omega) (by omega), eu, show (u : Int) + 1 - 1 = u by omega, sd_s_j (by omega)]
      by_cases d : M 0 10 ≤ 0
      · rw [if_pos d] at ep
        rw [if_pos d, ← ep]
        exact k1
      · rw [if_neg d] at ep
        rw [if_neg d, sd_wid (by omega) (by omega), ← ep]
        exact k1
    · unfold f_X10_undo
      rw [fr 331 (by omega) (by omega), eu, if_neg (by omega), show (u : Int) + 1 - 1 = u by omega, sd_wid (by omega) (by omega)]
      rw [v2] at e2
      exact e2
    · obtain ⟨ht, hr, _, hi, hk⟩ := h
      obtain ⟨k1, ⟨k2, k3, k4, k5, k6⟩, k7⟩ := hk
      have c58 : L 58 = M 58 := lo 58 (by omega) (by omega) (by omega) (by omega)
      refine ⟨iv_t_c ht (by rw [lo 1 (by omega) (by omega) (by omega) (by omega)]) (lo 2 (by omega) (by omega) (by omega) (by omega)) (f31 1 (by omega)) (lo _ (by omega) (by omega) (by omega) (by omega)), iv_r_c hr (by rw [l0, sd_s_j (by omega), sd_s_j (by omega)]) (f31 2 (by omega)) (fun a x y _ => lo a (by omega) (by omega) (by omega) (by omega)) (lo _ (by omega) (by omega) (by omega) (by omega)) (lo _ (by omega) (by omega) (by omega) (by omega)) (lo _ (by omega) (by omega) (by omega) (by omega)), ?_, iv_i_c hi (lo _ (by omega) (by omega) (by omega) (by omega)) (lo _ (by omega) (by omega) (by omega) (by omega)) (lo _ (by omega) (by omega) (by omega) (by omega)) (lo _ (by omega) (by omega) (by omega) (by omega)) (lo _ (by omega) (by omega) (by omega) (by omega)) (by rw [f31 2 (by omega)]; omega) (fun a x y => lo a (by omega) (by omega) (by omega) (by omega)), ?_⟩
      · have q27 : L 331 27 = u := by rw [l2 331 (by omega), sd_s_at]
        have q9 : L 0 9 = u := by rw [l0, sd_s_j (by omega), sd_s_at]
        have q10 : L 0 10 = p := by rw [l0, sd_s_at]
        unfold iv_u
        rw [q27, q9, q10, lo 345 (by omega) (by omega) (by omega) (by omega)]
        refine ⟨⟨rfl, by omega, by omega⟩, fun i hi2 => ?_⟩
        obtain ⟨a, b⟩ := hu.2 i (by omega)
        rw [ms_wa_o ou]
        refine ⟨a, ?_⟩
        have ix2 : ((p : Int).toNat + 20 - (u : Int).toNat + i) % 20 = ((M 0 10).toNat + 20 - (M 331 27).toNat + i) % 20 := by
          split at ep <;> omega
        rw [ix2]
        exact cl_bk_c a.1 b (fun _ _ => rfl) (fun x y w => lo x (by omega) (by omega) (by omega) (by omega))
      · unfold iv_k
        rw [f31 21 (by omega), f31 22 (by omega), f31 2 (by omega)]
        have no : ms_no (L 341) := by
          have := k1.2.2
          unfold ms_no at this ⊢
          rw [ou 127 (by omega)]
          refine ⟨this.1, fun k hk => ?_⟩
          rw [ou (107 + 2 * k) (by omega)]
          exact this.2 k hk
        refine ⟨⟨by rw [l1']; exact w1, by rw [l1']; exact w2, no⟩, ⟨?_, ?_, ?_, by rw [c58]; exact k5, by rw [c58]; exact k6⟩, k7⟩
        · have tg := cl_tg_c (N := L) k2 (fun a x y => lo a (by omega) (by omega) (by omega) (by omega))
          have nf : ∀ f : Int, ms_nf (L 341) f (L 341 3).toNat = ms_nf (M 341) f (M 341 3).toNat := fun f => by
            have b := k1.1.1.2.2.1
            rw [ou 3 (by omega)]
            exact ms_nf_c _ (fun k hk => ou _ (by omega))
          have b2 := k1.1.1.2.1
          have b3 := k1.1.1.2.2.1
          obtain ⟨⟨t0, t1, t2, t3⟩, tf, tk⟩ := tg
          refine ⟨⟨by rw [ou 0 (by omega)]; exact t0, by rw [ou 1 (by omega)]; exact t1, by rw [ou 2 (by omega)]; exact t2, by rw [ou 3 (by omega)]; exact t3⟩, fun f hf => ?_, fun k hk => ?_⟩
          · rw [ou 2 (by omega)] at hf
            rw [ou (4 + f) (by omega), ou (13 + f) (by omega), nf]
            exact tf f hf
          · rw [ou 3 (by omega)] at hk
            rw [ou (22 + 3 * k) (by omega), ou (23 + 3 * k) (by omega), ou (24 + 3 * k) (by omega)]
            exact tk k hk
        · rw [l1']
          exact cl_bk_c w1 b1 (fun _ _ => rfl) (fun a x y => by rw [l2 a (by omega), sd_s_a (by omega)])
        · have nt := cl_nt_c (N := L) k4 (fun a x y => lo a (by omega) (by omega) (by omega) (by omega))
          unfold cl_nt at nt ⊢
          rw [ou 127 (by omega)]
          refine ⟨nt.1, fun k hk => ?_⟩
          have := k1.2.2.1
          rw [ou (107 + 2 * k) (by omega), ou (108 + 2 * k) (by omega)]
          exact nt.2 k hk
  · refine ⟨-1, M, M, ?_, ?_, h⟩
    · unfold f_X9_undo
      rw [u1.1, if_neg c]
    · unfold f_X10_undo
      rw [if_pos (by omega)]
