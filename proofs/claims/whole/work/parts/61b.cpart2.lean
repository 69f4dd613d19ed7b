/-! the class parts: the rest, one each -/
def cl_of (M : sd_M) (b : Nat) (p : Int) : Int := if p < 0 then -1 else M (b + 6) p.toNat
theorem cl_lost_9 {M : sd_M} {b n c : Nat} {q v : Nat → Bool} {much : Int} (hl : cl_ln M b n) (hz : ms_sz much (cl_wt M b c q) n) (hs : 0 < ms_sum (cl_wt M b c q) n) (hv : ∀ f, v f = true → q f = true) : ∀ (m k fu : Nat), k + m = n → m < fu → f_X0_lostMost_16 b c fu (ms_bt v 9) much (ms_sum (cl_wt M b c q) n) (cl_of M b (ms_lm (fun k => v (M (b + 6) k).toNat) (ms_rm much (cl_wt M b c q) n) k).1) (ms_lm (fun k => v (M (b + 6) k).toNat) (ms_rm much (cl_wt M b c q) n) k).2 (k : Int) M = some (cl_of M b (ms_lm (fun k => v (M (b + 6) k).toNat) (ms_rm much (cl_wt M b c q) n) n).1, M) := by
  obtain ⟨⟨l1, l2⟩, l3, l4⟩ := hl
  intro m
  induction m with
  | zero =>
    intro k fu hk hf
    obtain ⟨fu, rfl⟩ : ∃ g, fu = g + 1 := ⟨fu - 1, by omega⟩
    obtain rfl : k = n := by omega
    rw [f_X0_lostMost_16, if_pos (by omega)]
  | succ m ih =>
    intro k fu hk hf
    obtain ⟨fu, rfl⟩ : ∃ g, fu = g + 1 := ⟨fu - 1, by omega⟩
    have a := l3 k (by omega)
    have g := ms_sz_k hz (k := k) (by omega)
    have e := ih (k + 1) fu (by omega) (by omega)
    rw [ms_lm] at e
    push_cast at e
    rw [f_X0_lostMost_16, if_neg (by omega), if_pos (by omega), Int.toNat_natCast, ms_bti a]
    by_cases mv : v (M (b + 6) k).toNat = true
    · have mq := hv _ mv
      have wk : cl_wt M b c q k = M c (M (b + 6) k).toNat := by unfold cl_wt; rw [if_pos mq]
      have rk : Int.tmod (sd_w (much * M c (M (b + 6) k).toNat)) (ms_sum (cl_wt M b c q) n) = ms_rm much (cl_wt M b c q) n k := by
        rw [← wk, sd_wid (z := much * cl_wt M b c q k) (by omega) (by omega), ms_tmod g.1]
        rfl
      rw [if_pos (by rw [if_pos mv]), if_pos a, if_pos (show ms_sum (cl_wt M b c q) n ≠ 0 by omega), rk, if_pos a, if_pos (show ms_sum (cl_wt M b c q) n ≠ 0 by omega), f_X0_lostMost_73, f_X0_lostMost_73, sd_wid (by omega) (by omega)]
      by_cases x : ms_rm much (cl_wt M b c q) n k ≤ (ms_lm (fun k => v (M (b + 6) k).toNat) (ms_rm much (cl_wt M b c q) n) k).2
      · rw [if_pos x]
        rw [if_neg (fun y => by have := y.2; omega)] at e
        exact e
      · rw [if_neg x]
        rw [if_pos ⟨mv, by omega⟩] at e
        unfold cl_of at e
        simp only [] at e
        rw [if_neg (by omega), Int.toNat_natCast] at e
        unfold cl_of
        exact e
    · rw [if_neg (by rw [if_neg mv]; decide), f_X0_lostMost_73, sd_wid (by omega) (by omega)]
      rw [if_neg (fun y => mv y.1)] at e
      exact e
theorem cl_lost {M : sd_M} {b n c : Nat} {q v : Nat → Bool} {much : Int} (hl : cl_ln M b n) (hz : ms_sz much (cl_wt M b c q) n) (hs : 0 < ms_sum (cl_wt M b c q) n) (hv : ∀ f, v f = true → q f = true) : f_X0_lostMost b c (ms_bt v 9) much (ms_sum (cl_wt M b c q) n) M = some (cl_of M b (ms_lm (fun k => v (M (b + 6) k).toNat) (ms_rm much (cl_wt M b c q) n) n).1, M) := by
  have l := hl.1
  unfold f_X0_lostMost
  rw [if_pos hs]
  exact cl_lost_9 hl hz hs hv n 0 4000 (by omega) (by omega)
theorem cl_part_123 {M0 : sd_M} {b n c d : Nat} {q : Nat → Bool} {much : Int} (hl : cl_ln M0 b n) (hz : ms_sz much (cl_wt M0 b c q) n) (hs : 0 < ms_sum (cl_wt M0 b c q) n) (hd : d ≠ b ∧ d ≠ b + 6 ∧ d ≠ c) {mb : Nat → Bool} (hmb : mb = fun k => q (M0 (b + 6) k).toNat) {r : Nat → Int} (hr : r = ms_rm much (cl_wt M0 b c q) n) : ∀ (m g fu : Nat) (M : sd_M) (v : Nat → Bool), g + m = 9 → m < fu → (g : Int) ≤ ms_rs much (cl_wt M0 b c q) n → (∀ f, v f = true → q f = true) → (∀ k, k < n → v (M0 (b + 6) k).toNat = (mb k && decide ((g : Int) ≤ ms_rq mb r n k))) → ms_ct (fun k => mb k && decide (ms_rq mb r n k < g)) n = g → cl_pd M0 M b n d q n (fun k => ms_fl much (cl_wt M0 b c q) n k + if ms_rq mb r n k < g then 1 else 0) → ms_T (f_X0_partAmong_123 b c d fu much (ms_sum (cl_wt M0 b c q) n) (ms_rs much (cl_wt M0 b c q) n) (ms_bt v 9) (g : Int) M) (fun _ N => cl_pd M0 N b n d q n (fun k => ms_fl much (cl_wt M0 b c q) n k + if ms_rq mb r n k < ms_rs much (cl_wt M0 b c q) n then 1 else 0)) := by
  have l := hl.1
  have hr0 : ∀ k, k < n → 0 ≤ r k := fun k hk => by
    rw [hr]
    exact (ms_sz_f hz hs hk).2.1.1
  have same : ∀ {g : Nat} {M : sd_M}, cl_pd M0 M b n d q n (fun k => ms_fl much (cl_wt M0 b c q) n k + if ms_rq mb r n k < g then 1 else 0) → (∀ k, k < n → mb k = true → (ms_rq mb r n k < g ↔ ms_rq mb r n k < ms_rs much (cl_wt M0 b c q) n)) → cl_pd M0 M b n d q n (fun k => ms_fl much (cl_wt M0 b c q) n k + if ms_rq mb r n k < ms_rs much (cl_wt M0 b c q) n then 1 else 0) := by
    intro g M hM hx
    refine ⟨hM.1, hM.2.1, fun k hk hq => ?_⟩
    rw [hM.2.2 k hk hq]
    have := hx k hk (by rw [hmb]; exact hq)
    dsimp only
    by_cases y : ms_rq mb r n k < g
    · rw [if_pos y, if_pos (this.mp y)]
    · rw [if_neg y, if_neg (fun z => y (this.mpr z))]
  intro m
  induction m with
  | zero =>
    intro g fu M v hg hf hgr hv hu hc hM
    obtain ⟨fu, rfl⟩ : ∃ g, fu = g + 1 := ⟨fu - 1, by omega⟩
    have q9 : ∀ k, k < n → mb k = true → (ms_rq mb r n k < (g : Nat) ↔ ms_rq mb r n k < ms_rs much (cl_wt M0 b c q) n) := fun k hk hm => by
      have x : ms_rq mb r n k < 9 := by
        have y := ms_ct_s (p := fun o => mb o && ms_bf r o k) (q := fun _ => true) (j := k) ⟨by
          have : ¬ (ms_bf r k k = true) := fun e => by
            have := ms_bf_e.mp e
            omega
          simp [this], rfl⟩ n (fun _ _ _ => rfl) hk
        have z := ms_ct_b (p := fun _ => true) n
        unfold ms_rq
        omega
      omega
    rw [f_X0_partAmong_123]
    split
    · exact ms_t_r (same hM q9)
    · rw [if_pos (by omega)]
      exact ms_t_r (same hM q9)
  | succ m ih =>
    intro g fu M v hg hf hgr hv hu hc hM
    obtain ⟨fu, rfl⟩ : ∃ g, fu = g + 1 := ⟨fu - 1, by omega⟩
    rw [f_X0_partAmong_123]
    by_cases x : ms_rs much (cl_wt M0 b c q) n ≤ (g : Int)
    · rw [if_pos x]
      exact ms_t_r (same hM (fun k hk hm => by omega))
    rw [if_neg x, if_neg (by omega)]
    have e6 : M (b + 6) = M0 (b + 6) := hM.1 _ (fun e => hd.2.1 e.symm)
    have ec : M c = M0 c := hM.1 _ (fun e => hd.2.2 e.symm)
    have eb : M b = M0 b := hM.1 _ (fun e => hd.1 e.symm)
    have ew : cl_wt M b c q = cl_wt M0 b c q := by
      funext k
      unfold cl_wt
      rw [e6, ec]
    have hl2 : cl_ln M b n := by
      unfold cl_ln
      rw [e6, eb]
      exact hl
    have lm : ∀ k, k ≤ n → ms_lm (fun k => v (M (b + 6) k).toNat) r k = ms_lm (fun k => mb k && decide ((g : Int) ≤ ms_rq mb r n k)) r k := by
      intro k
      induction k with
      | zero => intro _; rfl
      | succ k ik =>
        intro hk
        rw [ms_lm, ms_lm, ik (by omega), e6, hu k (by omega)]
    have lo := cl_lost (M := M) (b := b) (n := n) (c := c) (q := q) (v := v) (much := much) hl2 (by rw [ew]; exact hz) (by rw [ew]; exact hs) hv
    rw [ew, ← hr, lm n (Nat.le_refl _)] at lo
    rw [lo, Option.bind_some]
    simp only []
    rcases ms_lm_p (u := fun k => mb k && decide ((g : Int) ≤ ms_rq mb r n k)) n hr0 with ⟨a, _⟩ | ⟨p, a, pe, _⟩
    · rw [a]
      have : cl_of M b (-1) = -1 := rfl
      rw [this, if_pos rfl]
      have nn := ms_none hr0 a
      exact ms_t_r (same hM (fun k hk hm => by
        have := nn k hk hm
        omega))
    · obtain ⟨p1, p2, p3, p4, p5⟩ := ms_next hr0 hc pe
      have lp := hl.2.1 p a
      have of : cl_of M b (p : Int) = M0 (b + 6) p := by
        unfold cl_of
        rw [if_neg (by omega), Int.toNat_natCast, e6]
      have qp : q (M0 (b + 6) p).toNat = true := by
        have := p2
        rw [hmb] at this
        exact this
      have dp := hM.2.2 p a qp
      have fp := ms_sz_f hz hs a
      have z1 := hz.1
      dsimp only at dp
      rw [if_neg (by omega), Int.add_zero] at dp
      rw [pe, of, if_neg (by omega), if_pos lp, if_pos lp]
      have ba := ms_bt_a (p := v) (i := (M0 (b + 6) p).toNat) (by omega)
      rw [Int.toNat_of_nonneg lp.1] at ba
      rw [ba, dp, sd_wid (z := (g : Int) + 1) (by omega) (by omega), sd_wid (by omega) (by omega)]
      have up := ih (g + 1) fu (sd_s M d (M0 (b + 6) p).toNat (ms_fl much (cl_wt M0 b c q) n p + 1)) (fun j => v j && !((M0 (b + 6) p).toNat == j)) (by omega) (by omega) (by push_cast; omega) (fun f hf => hv f (by
        simp only [Bool.and_eq_true] at hf
        exact hf.1)) (fun k hk => by
        rw [hu k hk]
        by_cases kp : k = p
        · subst kp
          rw [p2, p3]
          simp
          omega
        · have ne : (M0 (b + 6) p).toNat ≠ (M0 (b + 6) k).toNat := fun e => kp (hl.2.2 k p hk a (by
            have := hl.2.1 k hk
            omega))
          have : ((M0 (b + 6) p).toNat == (M0 (b + 6) k).toNat) = false := by
            rw [beq_eq_false_iff_ne]
            exact ne
          rw [this, Bool.not_false, Bool.and_true]
          by_cases mk : mb k = true
          · rw [mk, Bool.true_and, Bool.true_and, decide_eq_decide]
            have : ms_rq mb r n k ≠ g := fun e => kp (p4 k hk mk e)
            push_cast
            omega
          · rw [Bool.eq_false_iff.mpr mk, Bool.false_and, Bool.false_and]) p5 ⟨fun y hy => by rw [sd_s_a hy, hM.1 y hy], fun y hy => by rw [sd_s_j (hy p a qp), hM.2.1 y hy], fun k hk hq => by
        by_cases kp : k = p
        · subst kp
          dsimp only
          rw [sd_s_at, if_pos (by push_cast; omega)]
        · have ne : (M0 (b + 6) k).toNat ≠ (M0 (b + 6) p).toNat := fun e => kp (hl.2.2 k p hk a (by
            have := hl.2.1 k hk
            omega))
          rw [sd_s_j ne, hM.2.2 k hk hq]
          have mk : mb k = true := by
            rw [hmb]
            exact hq
          have : ms_rq mb r n k ≠ g := fun e => kp (p4 k hk mk e)
          dsimp only
          by_cases y : ms_rq mb r n k < g
          · rw [if_pos y, if_pos (by push_cast; omega)]
          · rw [if_neg y, if_neg (by push_cast; omega)]⟩
      push_cast at up
      exact up
theorem cl_part {M : sd_M} {b n c d : Nat} {q : Nat → Bool} {much : Int} (hl : cl_ln M b n) (hz : ms_sz much (cl_wt M b c q) n) (hw : ∀ k, k < n → 0 ≤ M c (M (b + 6) k).toNat ∧ M c (M (b + 6) k).toNat ≤ 999) (hd : d ≠ b ∧ d ≠ b + 6 ∧ d ≠ c) : ms_T (f_X0_partAmong b c d (ms_bt q 9) much M) (fun _ N => (∀ a, a ≠ d → N a = M a) ∧ (∀ f, (∀ k, k < n → q (M (b + 6) k).toNat = true → f ≠ (M (b + 6) k).toNat) → N d f = M d f) ∧ (0 < ms_sum (cl_wt M b c q) n → ∀ k, k < n → q (M (b + 6) k).toNat = true → N d (M (b + 6) k).toNat = ms_pt much (cl_wt M b c q) n k)) := by
  have l := hl.1
  unfold f_X0_partAmong
  have a := cl_part_6 (d := d) (x := much) hl hz hw (f_X0_partAmong_47 b c d) n 0 4000 (by omega) (by omega)
  have a2 : f_X0_partAmong_6 (f_X0_partAmong_47 b c d) b c d 4000 (ms_bt q 9) much 0 0 M = _ := a
  rw [a2, f_X0_partAmong_47]
  by_cases hs : 0 < ms_sum (cl_wt M b c q) n
  · rw [if_pos hs]
    obtain ⟨N, n1, n2⟩ := cl_part_59 hl hz hs hd (f_X0_partAmong_117 b c d) n 0 4000 M (by omega) (by omega) ⟨fun _ _ => rfl, fun _ _ => rfl, fun k hk => absurd hk (by omega)⟩
    have n3 : f_X0_partAmong_59 (f_X0_partAmong_117 b c d) b c d 4000 (ms_bt q 9) much (ms_sum (cl_wt M b c q) n) (much - 0) 0 M = _ := n2
    rw [Int.sub_zero] at n3
    rw [n3, f_X0_partAmong_117]
    have r0 := ms_rs_0 hz hs
    have z : ∀ k, 0 ≤ ms_rq (fun k => q (M (b + 6) k).toNat) (ms_rm much (cl_wt M b c q) n) n k := fun k => (ms_ct_b n).1
    have c0 : ∀ m, ms_ct (fun k => q (M (b + 6) k).toNat && decide (ms_rq (fun k => q (M (b + 6) k).toNat) (ms_rm much (cl_wt M b c q) n) n k < ((0 : Nat) : Int))) m = ((0 : Nat) : Int) := by
      intro m
      induction m with
      | zero => rfl
      | succ m im =>
        rw [ms_ct, im, if_neg]
        · rfl
        · have := z m
          simp
          omega
    refine ms_t_w (cl_part_123 hl hz hs hd rfl rfl 9 0 4000 N q (by omega) (by omega) r0.1 (fun _ h => h) (fun k hk => by
      have : decide (((0 : Nat) : Int) ≤ ms_rq (fun k => q (M (b + 6) k).toNat) (ms_rm much (cl_wt M b c q) n) n k) = true := decide_eq_true (z k)
      rw [this, Bool.and_true]) (c0 n) ⟨n1.1, n1.2.1, fun k hk hq => by
        have := z k
        dsimp only
        rw [n1.2.2 k hk hq, if_neg (by omega), Int.add_zero]⟩) ?_
    intro _ K hK
    refine ⟨hK.1, hK.2.1, fun _ k hk hq => ?_⟩
    rw [hK.2.2 k hk hq, ms_pt, if_neg (by omega)]
    dsimp only
    have sm := ms_same hz hs (m := fun k => q (M (b + 6) k).toNat) (fun j hj e => cl_wt_0 e) hk
    by_cases y : ms_rk (ms_rm much (cl_wt M b c q) n) k n < ms_rs much (cl_wt M b c q) n
    · rw [if_pos y, if_pos (sm.mpr y)]
    · rw [if_neg y, if_neg (fun t => y (sm.mp t))]
  · rw [if_neg hs]
    exact ms_t_r ⟨fun _ _ => rfl, fun _ _ => rfl, fun h => absurd h hs⟩
